/-! ===== 43.change: CHANGES: which may be, what they make of a way ===== -/
def CH (n : Nat) : Nat := if n ≤ 1 then 1 else 2 ^ (n - 1)
theorem CH_le : ∀ n : Nat, n < 7 → CH n ≤ 32 ∧ 1 ≤ CH n := by decide
theorem changes_x : ∀ n : Nat, n < 7 → f_X3_changes (nI n) = some (nI (CH n)) := by decide +kernel
theorem isChange_m : ∀ n : Nat, n < 7 → ∀ c : Nat, c < 32 → f_X7_isChange (nI n) (nI c) = some (if c < CH n then 1 else 0) := by decide +kernel
/-- no ROCK in two of them -/
def nadj (c : Nat) : Bool := (List.range 5).all (fun r => !(bt6 c r && bt6 c (r + 1)))
def alB (w c : Nat) : Bool := nadj c && (List.range 5).all (fun r => !(bt6 c r) || bt6 w r)
theorem allows_x : ∀ w : Nat, w < 64 → ∀ c : Nat, c < 32 → f_X3_allows (nI w) (nI c) = some (if alB w c then 1 else 0) := by decide +kernel
theorem CH_bits : ∀ n : Nat, n < 7 → ∀ c : Nat, c < CH n → ∀ r : Nat, r < 6 → n - 1 ≤ r → bt6 c r = false := by decide +kernel
/-- a set out of a test, bit by bit -/
def wl (ok : Nat → Bool) : Nat → Nat
  | 0 => 0
  | r + 1 => if ok r then wl ok r ||| 2 ^ r else wl ok r
theorem wl_lt (ok : Nat → Bool) : ∀ r : Nat, r ≤ 6 → wl ok r < 64
  | 0, _ => (by decide : (0 : Nat) < 64)
  | r + 1, h => by
    unfold wl
    have := wl_lt ok r (by omega)
    split
    · exact orbit_lt _ this r (by omega)
    · exact this
theorem wl_bt (ok : Nat → Bool) : ∀ r : Nat, r ≤ 6 → ∀ j : Nat, j < 6 → bt6 (wl ok r) j = (decide (j < r) && ok j)
  | 0, _, j, _ => by simp [wl, bt6]
  | r + 1, h, j, hj => by
    have ih := wl_bt ok r (by omega) j hj
    have hl := wl_lt ok r (by omega)
    unfold wl
    by_cases c : ok r = true
    · rw [if_pos c, orbit_bt _ hl r (by omega) j hj, ih]
      by_cases e : j = r
      · subst e; simp [c]
      · have : decide (j < r + 1) = decide (j < r) := by congr 1; apply propext; omega
        rw [this]; simp [e]
    · rw [if_neg c, ih]
      by_cases e : j = r
      · subst e; simp [c]
      · have : decide (j < r + 1) = decide (j < r) := by congr 1; apply propext; omega
        rw [this]
/-- may a CHANGE be, where 'ok r' says that who is at r and at r + 1 don't hate each other -/
def AL (n : Nat) (ok : Nat → Bool) (c : Nat) : Bool := nadj c && (List.range (n - 1)).all (fun r => !(bt6 c r) || ok r)
theorem alB_AL {n c : Nat} (ok : Nat → Bool) (hn : n < 7) (hc : c < CH n) : alB (wl ok (n - 1)) c = AL n ok c := by
  unfold alB AL
  congr 1
  rw [Bool.eq_iff_iff, List.all_eq_true, List.all_eq_true]
  constructor
  · intro h r hr
    rw [List.mem_range] at hr
    have := h r (List.mem_range.mpr (by omega))
    rw [wl_bt ok (n - 1) (by omega) r (by omega)] at this
    simpa [hr] using this
  · intro h r hr
    rw [List.mem_range] at hr
    rw [wl_bt ok (n - 1) (by omega) r (by omega)]
    by_cases q : r < n - 1
    · have := h r (List.mem_range.mpr q)
      simpa [q] using this
    · rw [CH_bits n hn c hc r (by omega) (by omega)]
      rfl
theorem AL_spec {n c : Nat} {ok : Nat → Bool} : AL n ok c = true ↔ nadj c = true ∧ ∀ r, r < n - 1 → bt6 c r = true → ok r = true := by
  unfold AL
  rw [Bool.and_eq_true, List.all_eq_true]
  constructor
  · rintro ⟨h1, h2⟩
    refine ⟨h1, fun r hr hb => ?_⟩
    have := h2 r (List.mem_range.mpr hr)
    simpa [hb] using this
  · rintro ⟨h1, h2⟩
    refine ⟨h1, fun r hr => ?_⟩
    have := h2 r (List.mem_range.mp hr)
    cases hb : bt6 c r
    · rfl
    · simpa [hb] using this hb
theorem AL_0 (n : Nat) (ok : Nat → Bool) : AL n ok 0 = true := AL_spec.mpr ⟨by decide, fun r _ h => by simp [bt6] at h⟩
/-- what a CHANGE makes of a way, rock by rock -/
def afu (n w c : Nat) : Nat → Nat
  | 0 => w
  | r + 1 => if bt6 c r then X n (afu n w c r) r else afu n w c r
def AF (n w c : Nat) : Nat := afu n w c (n - 1)
theorem afu_lt {n w c : Nat} (hn : n < 7) (hw : w < fac n) : ∀ r : Nat, r ≤ n - 1 → afu n w c r < fac n
  | 0, _ => hw
  | r + 1, h => by
    have := afu_lt (c := c) hn hw r (by omega)
    unfold afu
    split
    · exact X_lt hn this (by omega)
    · exact this
theorem AF_lt {n w c : Nat} (hn : n < 7) (hw : w < fac n) : AF n w c < fac n := afu_lt hn hw _ (Nat.le_refl _)
theorem AF_0 {n w : Nat} : AF n w 0 = w := by
  have h : ∀ r, afu n w 0 r = w := by
    intro r
    induction r with
    | zero => rfl
    | succ r ih =>
      unfold afu
      rw [if_neg (by simp [bt6]), ih]
  exact h _
theorem nadj_at {c r : Nat} (h : nadj c = true) (hr : r < 5) (hb : bt6 c r = true) : bt6 c (r + 1) = false := by
  unfold nadj at h
  rw [List.all_eq_true] at h
  have := h r (List.mem_range.mpr hr)
  rw [hb] at this
  simpa using this
/-- who comes to a rock from where, by the bits below r -/
def sgm (c r q : Nat) : Nat := if q < r ∧ bt6 c q = true then q + 1 else if 0 < q ∧ q - 1 < r ∧ bt6 c (q - 1) = true then q - 1 else q
theorem sgm_up {c r q : Nat} (h : (¬ q = r ∧ ¬ q = r + 1) ∨ ¬ bt6 c r = true) : sgm c r q = sgm c (r + 1) q := by
  have hz : (q < r + 1 ∧ bt6 c q = true) → q < r ∧ bt6 c q = true := fun y => by
    by_cases e : q = r
    · subst e
      rcases h with h | h
      · exact absurd rfl h.1
      · exact absurd y.2 h
    · exact ⟨by omega, y.2⟩
  have hx : (0 < q ∧ q - 1 < r + 1 ∧ bt6 c (q - 1) = true) → 0 < q ∧ q - 1 < r ∧ bt6 c (q - 1) = true := fun y => by
    by_cases e : q - 1 = r
    · rcases h with h | h
      · omega
      · rw [e] at y; exact absurd y.2.2 h
    · exact ⟨y.1, by omega, y.2.2⟩
  unfold sgm
  by_cases z : q < r ∧ bt6 c q = true
  · have z' : q < r + 1 ∧ bt6 c q = true := ⟨by omega, z.2⟩
    rw [if_pos z, if_pos z']
  · have z' : ¬ (q < r + 1 ∧ bt6 c q = true) := fun y => z (hz y)
    rw [if_neg z, if_neg z']
    by_cases x : 0 < q ∧ q - 1 < r ∧ bt6 c (q - 1) = true
    · have x' : 0 < q ∧ q - 1 < r + 1 ∧ bt6 c (q - 1) = true := ⟨x.1, by omega, x.2.2⟩
      rw [if_pos x, if_pos x']
    · have x' : ¬ (0 < q ∧ q - 1 < r + 1 ∧ bt6 c (q - 1) = true) := fun y => x (hx y)
      rw [if_neg x, if_neg x']
theorem afu_P {n w c : Nat} (hn : n < 7) (hw : w < fac n) (ha : nadj c = true) : ∀ r : Nat, r ≤ n - 1 → ∀ q, q < n → P n (afu n w c r) q = P n w (sgm c r q)
  | 0, _, q, _ => by
    show P n w q = _
    unfold sgm
    rw [if_neg (by omega), if_neg (by omega)]
  | r + 1, h, q, hq => by
    have ih := afu_P hn hw ha r (by omega)
    have hl := afu_lt (c := c) hn hw r (by omega)
    unfold afu
    by_cases hb : bt6 c r = true
    · rw [if_pos hb, P_X hn hl (by omega)]
      unfold swp
      by_cases e1 : q = r
      · subst e1
        rw [if_pos rfl, ih (q + 1) (by omega)]
        unfold sgm
        rw [if_neg (by omega), if_neg (by omega), if_pos ⟨by omega, hb⟩]
      · rw [if_neg e1]
        by_cases e2 : q = r + 1
        · subst e2
          rw [if_pos rfl, ih r (by omega)]
          have hx : sgm c r r = r := by
            unfold sgm
            rw [if_neg (by omega)]
            by_cases z : 0 < r ∧ r - 1 < r ∧ bt6 c (r - 1) = true
            · have := nadj_at ha (r := r - 1) (by omega) z.2.2
              rw [show r - 1 + 1 = r by omega, hb] at this
              cases this
            · rw [if_neg z]
          rw [hx]
          unfold sgm
          rw [if_neg (by omega), if_pos ⟨by omega, by omega, hb⟩]
          rfl
        · rw [if_neg e2, ih q hq]
          rw [sgm_up (Or.inl ⟨e1, e2⟩)]
    · rw [if_neg hb, ih q hq, sgm_up (Or.inr hb)]
theorem sgm_lt {n c q : Nat} (hq : q < n) : sgm c (n - 1) q < n := by
  unfold sgm
  split
  · omega
  · split <;> omega
theorem sgm_sgm {n c q : Nat} (hn : n < 7) (ha : nadj c = true) (hq : q < n) : sgm c (n - 1) (sgm c (n - 1) q) = q := by
  by_cases z : q < n - 1 ∧ bt6 c q = true
  · have e : sgm c (n - 1) q = q + 1 := by unfold sgm; rw [if_pos z]
    rw [e]
    unfold sgm
    have := nadj_at ha (r := q) (by omega) z.2
    rw [if_neg (by rw [this]; simp), if_pos ⟨by omega, by omega, by rw [Nat.add_sub_cancel]; exact z.2⟩]
    omega
  · by_cases x : 0 < q ∧ q - 1 < n - 1 ∧ bt6 c (q - 1) = true
    · have e : sgm c (n - 1) q = q - 1 := by unfold sgm; rw [if_neg z, if_pos x]
      rw [e]
      unfold sgm
      rw [if_pos ⟨x.2.1, x.2.2⟩]
      omega
    · have e : sgm c (n - 1) q = q := by unfold sgm; rw [if_neg z, if_neg x]
      rw [e, e]
theorem AF_AF {n w c : Nat} (hn : n < 7) (hw : w < fac n) (hc : c < CH n) (ha : nadj c = true) : AF n (AF n w c) c = w := by
  refine P_ext hn (AF_lt hn (AF_lt hn hw)) hw (fun r hr => ?_)
  rw [show P n (AF n (AF n w c) c) r = P n (AF n w c) (sgm c (n - 1) r) from afu_P hn (AF_lt hn hw) ha (n - 1) (Nat.le_refl _) r hr, show P n (AF n w c) (sgm c (n - 1) r) = P n w (sgm c (n - 1) (sgm c (n - 1) r)) from afu_P hn hw ha (n - 1) (Nat.le_refl _) _ (sgm_lt hr), sgm_sgm hn ha hr]
theorem AF_P {n w c r : Nat} (hn : n < 7) (hw : w < fac n) (hc : c < CH n) (ha : nadj c = true) (hr : r < n - 1) (hb : bt6 c r = true) : P n (AF n w c) r = P n w (r + 1) ∧ P n (AF n w c) (r + 1) = P n w r := by
  have h1 : P n (AF n w c) r = P n w (sgm c (n - 1) r) := afu_P hn hw ha (n - 1) (Nat.le_refl _) r (by omega)
  have h2 : P n (AF n w c) (r + 1) = P n w (sgm c (n - 1) (r + 1)) := afu_P hn hw ha (n - 1) (Nat.le_refl _) (r + 1) (by omega)
  have e1 : sgm c (n - 1) r = r + 1 := by unfold sgm; rw [if_pos ⟨hr, hb⟩]
  have e2 : sgm c (n - 1) (r + 1) = r := by
    unfold sgm
    have := nadj_at ha (r := r) (by omega) hb
    rw [if_neg (by rw [this]; simp), if_pos ⟨by omega, by omega, by rw [Nat.add_sub_cancel]; exact hb⟩]
    omega
  rw [h1, h2, e1, e2]
  exact ⟨rfl, rfl⟩
/-- who doesn't hate whom, at a way's rocks -/
def okr (n w : Nat) (ht : Nat → Nat) (r : Nat) : Bool := !(bt6 (ht (P n w r)) (P n w (r + 1)))
/-- a CHANGE that may be may be made undone by itself -/
theorem AL_back {n w c : Nat} {ht : Nat → Nat} (hn : n < 7) (hw : w < fac n) (hc : c < CH n) (hsym : ∀ a b, a < n → b < n → bt6 (ht a) b = bt6 (ht b) a) (h : AL n (okr n w ht) c = true) : AL n (okr n (AF n w c) ht) c = true := by
  rw [AL_spec] at h ⊢
  refine ⟨h.1, fun r hr hb => ?_⟩
  have h1 := h.2 r hr hb
  obtain ⟨e1, e2⟩ := AF_P hn hw hc h.1 hr hb
  unfold okr at h1 ⊢
  rw [e1, e2, hsym _ _ (P_lt hn hw (by omega)) (P_lt hn hw (by omega))]
  exact h1
