/-! ===== 44.loops: the class's and the reference's loops over rocks ===== -/
/-- what the class's tables hold -/
def Tab (n : Nat) (fk fc : Nat → Int32) : Prop := (∀ w r, w < fac n → r < n → fk (w * 6 + r) = nI (P n w r)) ∧ ∀ w r, w < fac n → r + 1 < n → fc (w * 5 + r) = nI (X n w r)
theorem who_t {n w r : Nat} {fk fc : Nat → Int32} (hT : Tab n fk fc) (hn : n < 7) (hw : w < fac n) (hr : r < n) : f_X5_who fk (nI w) (nI r) = some (nI (P n w r)) := by
  have := fac_le n hn
  rw [who_in (by omega) (by omega), hT.1 w r hw hr]
theorem flashAt_t {n w r : Nat} {fk fc ff : Nat → Int32} {fl : Nat → Nat} (hT : Tab n fk fc) (hn : n < 7) (hw : w < fac n) (hr : r < n) (hf : ∀ a, a < n → ff a = nI (fl a)) : f_X3_flashAt fk ff (nI w) (nI r) = some (nI (fl (P n w r))) := by
  unfold f_X3_flashAt
  have hp := P_lt hn hw hr
  rw [who_t hT hn hw hr, bs, flashOf_in (by omega), bs, hf _ hp]
theorem wl_s (ok : Nat → Bool) (r : Nat) : wl ok (r + 1) = if ok r = true then wl ok r ||| 2 ^ r else wl ok r := rfl
theorem afu_s (n w c r : Nat) : afu n w c (r + 1) = if bt6 c r = true then X n (afu n w c r) r else afu n w c r := rfl
theorem willing_loop {n w : Nat} {fk fc fh : Nat → Int32} {ht : Nat → Nat} {k : Int32 → Int32 → Option Int32} (hT : Tab n fk fc) (hn : n < 7) (hw : w < fac n) (hh : ∀ a, a < n → fh a = nI (ht a) ∧ ht a < 64) :
    ∀ (d f r : Nat), n - 1 = r + d → d < f → ∃ y, lp_X3_willing_L4 (nI n) fk fh (nI w) k f (nI (wl (okr n w ht) r)) (nI r) = k (nI (wl (okr n w ht) (n - 1))) y := by
  intro d
  induction d with
  | zero =>
    intro f r hr hf
    obtain ⟨f, rfl⟩ := pred1 hf
    unfold lp_X3_willing_L4
    refine ⟨nI r, ?_⟩
    rw [nI_1, if_pos (nI_le (by omega) (by omega)), show n - 1 = r by omega]
  | succ d ih =>
    intro f r hr hf
    obtain ⟨f, rfl⟩ := pred1 (Nat.lt_of_le_of_lt (Nat.zero_le _) hf)
    unfold lp_X3_willing_L4
    have h1 := P_lt hn hw (r := r) (by omega)
    have h2 := P_lt hn hw (r := r + 1) (by omega)
    obtain ⟨e1, e2⟩ := hh _ h1
    have hl := wl_lt (okr n w ht) r (by omega)
    rw [nI_1, if_neg (nI_ge (by omega) (by omega)), who_t hT hn hw (by omega), bs, hatersOf_in (by omega), bs, who_t hT hn hw (by omega), bs, e1, bit_at _ e2 _ (by omega), orbit_eq _ hl r (by omega)]
    obtain ⟨y, h⟩ := ih f (r + 1) (by omega) (by omega)
    refine ⟨y, ?_⟩
    have hb : okr n w ht r = !(bt6 (ht (P n w r)) (P n w (r + 1))) := rfl
    by_cases q : ht (P n w r) / 2 ^ P n w (r + 1) % 2 = 0
    · have : okr n w ht r = true := by rw [hb]; unfold bt6; rw [q]; rfl
      rw [q, if_pos (show nI 0 = 0 from rfl)]
      rw [wl_s, if_pos this] at h
      exact h
    · have q1 : ht (P n w r) / 2 ^ P n w (r + 1) % 2 = 1 := by omega
      have : ¬ okr n w ht r = true := by rw [hb]; unfold bt6; rw [q1]; decide
      rw [q1, if_neg (show ¬ nI 1 = 0 by decide)]
      rw [wl_s, if_neg this] at h
      exact h
theorem willing_x {n w : Nat} {fk fc fh : Nat → Int32} {ht : Nat → Nat} (hT : Tab n fk fc) (hn : n < 7) (hw : w < fac n) (hh : ∀ a, a < n → fh a = nI (ht a) ∧ ht a < 64) : f_X3_willing (nI n) fk fh (nI w) = some (nI (wl (okr n w ht) (n - 1))) := by
  unfold f_X3_willing
  obtain ⟨y, h⟩ := willing_loop (k := fun y6 _ => some y6) hT hn hw hh (n - 1) FU 0 (by omega) (by show _ < 4096; omega)
  exact h
theorem after_loop {n w c : Nat} {fk fc : Nat → Int32} {k : Int32 → Int32 → Option Int32} (hT : Tab n fk fc) (hn : n < 7) (hw : w < fac n) (hc : c < CH n) :
    ∀ (d f r : Nat), 5 = r + d → d < f → ∃ y, lp_X3_after_L5 fc (nI c) k f (nI (afu n w c (min r (n - 1)))) (nI r) = k (nI (AF n w c)) y := by
  have hc32 := CH_le n hn
  intro d
  induction d with
  | zero =>
    intro f r hr hf
    obtain ⟨f, rfl⟩ := pred1 hf
    unfold lp_X3_after_L5
    refine ⟨nI r, ?_⟩
    rw [show r = 5 by omega, if_pos (show (5 : Int32) ≤ nI 5 from nI_le (a := 5) (by omega) (by omega)), show min 5 (n - 1) = n - 1 by omega]
    rfl
  | succ d ih =>
    intro f r hr hf
    obtain ⟨f, rfl⟩ := pred1 (Nat.lt_of_le_of_lt (Nat.zero_le _) hf)
    unfold lp_X3_after_L5
    obtain ⟨y, h⟩ := ih f (r + 1) (by omega) (by omega)
    refine ⟨y, ?_⟩
    rw [if_neg (show ¬ (5 : Int32) ≤ nI r from nI_ge (a := r) (b := 5) (by omega) (by omega)), bit_at c (by omega) r (by omega), nI_1]
    by_cases q : c / 2 ^ r % 2 = 1
    · have hb : bt6 c r = true := by unfold bt6; rw [q]; rfl
      have hr1 : r + 1 < n := by
        rcases Nat.lt_or_ge r (n - 1) with z | z
        · omega
        · have := CH_bits n hn c hc r (by omega) z
          rw [hb] at this; cases this
      have hl := afu_lt (c := c) hn hw r (by omega)
      have hf720 := fac_le n hn
      rw [q, if_pos (show nI 1 = 1 from rfl), show min r (n - 1) = r by omega, changedAt_in (by omega) (by omega), bs, hT.2 _ r hl hr1]
      rw [show min (r + 1) (n - 1) = r + 1 by omega] at h
      rw [afu_s, if_pos hb] at h
      exact h
    · have q0 : c / 2 ^ r % 2 = 0 := by omega
      have hb : ¬ bt6 c r = true := by unfold bt6; rw [q0]; decide
      rw [q0, if_neg (show ¬ nI 0 = 1 by decide)]
      rcases Nat.lt_or_ge r (n - 1) with z | z
      · rw [show min r (n - 1) = r by omega]
        rw [show min (r + 1) (n - 1) = r + 1 by omega] at h
        rw [afu_s, if_neg hb] at h
        exact h
      · rw [show min r (n - 1) = n - 1 by omega]
        rw [show min (r + 1) (n - 1) = n - 1 by omega] at h
        exact h
theorem after_x {n w c : Nat} {fk fc : Nat → Int32} (hT : Tab n fk fc) (hn : n < 7) (hw : w < fac n) (hc : c < CH n) : f_X3_after fc (nI w) (nI c) = some (nI (AF n w c)) := by
  unfold f_X3_after
  obtain ⟨y, h⟩ := after_loop (k := fun y6 _ => some y6) hT hn hw hc 5 FU 0 (by omega) (by show _ < 4096; omega)
  rw [show afu n w c (min 0 (n - 1)) = w by rw [Nat.zero_min]; rfl] at h
  exact h
-- the reference
/-- a row that holds a way -/
def Row (n w : Nat) (row : Nat → Int32) : Prop := ∀ r, r < n → row r = nI (P n w r)
theorem may_loop {n w c N : Nat} {row fh : Nat → Int32} {ht : Nat → Nat} {k : Int32 → Int32 → Option Int32} (hR : Row n w row) (hN : 6 ≤ N) (hN2 : N < 1000) (hn : n < 7) (hw : w < fac n) (hc : c < 32) (hh : ∀ a, a < n → fh a = nI (ht a) ∧ ht a < 64) (b0 : Bool) :
    ∀ (d f r : Nat), n - 1 = r + d → d < f → ∃ y, lp_X7_mayChange_L17 (nI n) N row fh (nI c) k f (if (b0 && (List.range r).all (fun r => !(bt6 c r) || okr n w ht r)) = true then 1 else 0) (nI r) = k (if (b0 && (List.range (n - 1)).all (fun r => !(bt6 c r) || okr n w ht r)) = true then 1 else 0) y := by
  intro d
  induction d with
  | zero =>
    intro f r hr hf
    obtain ⟨f, rfl⟩ := pred1 hf
    unfold lp_X7_mayChange_L17
    refine ⟨nI r, ?_⟩
    rw [nI_1, if_pos (nI_le (by omega) (by omega)), show n - 1 = r by omega]
  | succ d ih =>
    intro f r hr hf
    obtain ⟨f, rfl⟩ := pred1 (Nat.lt_of_le_of_lt (Nat.zero_le _) hf)
    unfold lp_X7_mayChange_L17
    have h1 := P_lt hn hw (r := r) (by omega)
    have h2 := P_lt hn hw (r := r + 1) (by omega)
    obtain ⟨e1, e2⟩ := hh _ h1
    obtain ⟨y, h⟩ := ih f (r + 1) (by omega) (by omega)
    refine ⟨y, ?_⟩
    have hall : (List.range (r + 1)).all (fun r => !(bt6 c r) || okr n w ht r) = ((List.range r).all (fun r => !(bt6 c r) || okr n w ht r) && (!(bt6 c r) || okr n w ht r)) := by rw [List.range_succ, List.all_append]; simp
    rw [hall] at h
    rw [nI_1, if_neg (nI_ge (by omega) (by omega)), has_eq c (by omega) r (by omega), bs]
    generalize hA : (List.range r).all (fun r => !(bt6 c r) || okr n w ht r) = A at h ⊢
    cases hz : (b0 && A)
    · rw [if_neg (show ¬ (false = true) by decide), if_pos rfl]
      rw [← Bool.and_assoc, hz, Bool.false_and, if_neg (show ¬ (false = true) by decide)] at h
      exact h
    · rw [if_pos (show true = true from rfl), if_neg (show ¬ (1 : Int32) = 0 by decide)]
      rw [← Bool.and_assoc, hz, Bool.true_and] at h
      cases hb : bt6 c r
      · rw [if_neg (show ¬ (false = true) by decide), if_pos rfl]
        rw [hb, Bool.not_false, Bool.true_or, if_pos rfl] at h
        exact h
      · rw [if_pos (show true = true from rfl), if_neg (show ¬ (1 : Int32) = 0 by decide), if_neg (nG (by omega) (by omega)), nC (by omega), hR r (by omega), if_neg (nG (by omega) (by omega)), if_neg (nG (by omega) (by omega)), nC (by omega), nC (by omega), e1, hR (r + 1) (by omega), has_eq _ e2 _ (by omega), bs]
        have hb2 : okr n w ht r = !(bt6 (ht (P n w r)) (P n w (r + 1))) := rfl
        rw [hb, hb2, Bool.not_true, Bool.false_or] at h
        cases hc2 : bt6 (ht (P n w r)) (P n w (r + 1))
        · rw [if_neg (show ¬ (false = true) by decide), if_pos rfl]
          rw [hc2, if_pos (show (!false) = true from rfl)] at h
          exact h
        · rw [if_pos (show true = true from rfl), if_neg (show ¬ (1 : Int32) = 0 by decide)]
          rw [hc2, if_neg (show ¬ (!true) = true by decide)] at h
          exact h
theorem nadj_m : ∀ c : Nat, c < 32 → ((nI c &&& (nI c >>> (1 &&& 31))) = 0) = (nadj c = true) := by
  have h : ∀ c : Nat, c < 32 → decide ((nI c &&& (nI c >>> (1 &&& 31))) = 0) = nadj c := by decide +kernel
  intro c hc
  have := h c hc
  rw [← this]
  simp
theorem may_m {n w c N : Nat} {row fh : Nat → Int32} {ht : Nat → Nat} (hR : Row n w row) (hN : 6 ≤ N) (hN2 : N < 1000) (hn : n < 7) (hw : w < fac n) (hc : c < 32) (hh : ∀ a, a < n → fh a = nI (ht a) ∧ ht a < 64) :
    f_X7_mayChange (nI n) N row fh (nI c) = some (if AL n (okr n w ht) c = true then 1 else 0) := by
  unfold f_X7_mayChange
  have key : ∀ b0 : Bool, ∃ y, lp_X7_mayChange_L17 (nI n) N row fh (nI c) (fun y14 _ => if ¬ (y14 = 0 ∨ y14 = 1) then none else some y14) FU (if b0 = true then 1 else 0) 0 = (fun (y14 _ : Int32) => if ¬ (y14 = 0 ∨ y14 = 1) then none else some y14) (if (b0 && (List.range (n - 1)).all (fun r => !(bt6 c r) || okr n w ht r)) = true then 1 else 0) y := by
    intro b0
    have := may_loop (k := fun y14 _ => if ¬ (y14 = 0 ∨ y14 = 1) then none else some y14) hR hN hN2 hn hw hc hh b0 (n - 1) FU 0 (by omega) (by show _ < 4096; omega)
    rw [show (b0 && (List.range 0).all (fun r => !(bt6 c r) || okr n w ht r)) = b0 by simp] at this
    exact this
  unfold AL
  cases hz : nadj c
  · rw [if_neg (show ¬ (nI c &&& (nI c >>> (1 &&& 31))) = 0 from by rw [nadj_m c hc, hz]; decide)]
    obtain ⟨y, h⟩ := key false
    rw [if_neg (show ¬ (false = true) by decide), Bool.false_and, if_neg (show ¬ (false = true) by decide)] at h
    rw [h, Bool.false_and, if_neg (show ¬ (false = true) by decide)]
    rfl
  · rw [if_pos (show (nI c &&& (nI c >>> (1 &&& 31))) = 0 from by rw [nadj_m c hc, hz])]
    obtain ⟨y, h⟩ := key true
    rw [if_pos (show true = true from rfl)] at h
    rw [h, Bool.true_and]
    split
    · rfl
    · rfl
theorem chg_loop {n w c N : Nat} {k : Int32 → (Nat → Int32) → Option (Nat → Int32)} (hN : 6 ≤ N) (hN2 : N < 1000) (hn : n < 7) (hw : w < fac n) (hc : c < 32) :
    ∀ (d f r : Nat) (row : Nat → Int32), n - 1 = r + d → d < f → Row n (afu n w c r) row → ∃ y row', Row n (AF n w c) row' ∧ (∀ q, n ≤ q → row' q = row q) ∧ lp_X7_changes_L2 (nI n) N (nI c) k f (nI r) row = k y row' := by
  intro d
  induction d with
  | zero =>
    intro f r row hr hf hR
    obtain ⟨f, rfl⟩ := pred1 hf
    unfold lp_X7_changes_L2
    refine ⟨nI r, row, ?_, fun _ _ => rfl, ?_⟩
    · unfold AF; rw [show n - 1 = r by omega]; exact hR
    · rw [nI_1, if_pos (nI_le (by omega) (by omega))]
  | succ d ih =>
    intro f r row hr hf hR
    obtain ⟨f, rfl⟩ := pred1 (Nat.lt_of_le_of_lt (Nat.zero_le _) hf)
    unfold lp_X7_changes_L2
    rw [nI_1, if_neg (nI_ge (by omega) (by omega)), has_eq c (by omega) r (by omega), bs]
    cases hb : bt6 c r
    · rw [if_neg (show ¬ (false = true) by decide), if_pos rfl]
      refine ih f (r + 1) row (by omega) (by omega) ?_
      rw [afu_s, if_neg (by rw [hb]; decide)]
      exact hR
    · rw [if_pos (show true = true from rfl), if_neg (show ¬ (1 : Int32) = 0 by decide), if_neg (nG (by omega) (by omega)), if_neg (nG (by omega) (by omega)), if_neg (nG (by omega) (by omega)), if_neg (nG (by omega) (by omega)), nC (by omega), nC (by omega)]
      obtain ⟨y, row', h1, h2, h3⟩ := ih f (r + 1) (upd (upd row r (row (r + 1))) (r + 1) (row r)) (by omega) (by omega) (by
        intro q hq
        rw [afu_s, if_pos hb, P_X hn (afu_lt hn hw r (by omega)) (by omega)]
        unfold swp
        by_cases e2 : q = r + 1
        · subst e2
          rw [pk_us, if_neg (by omega), if_pos rfl, hR r (by omega)]
        · rw [pk_un e2]
          by_cases e1 : q = r
          · subst e1
            rw [pk_us, if_pos rfl, hR (q + 1) (by omega)]
          · rw [pk_un e1, if_neg e1, if_neg e2, hR q hq])
      refine ⟨y, row', h1, fun q hq => ?_, h3⟩
      rw [h2 q hq, pk_un (by omega), pk_un (by omega)]
theorem chg_m {n w c N : Nat} {row : Nat → Int32} (hR : Row n w row) (hN : 6 ≤ N) (hN2 : N < 1000) (hn : n < 7) (hw : w < fac n) (hc : c < 32) : ∃ row', Row n (AF n w c) row' ∧ (∀ q, n ≤ q → row' q = row q) ∧ f_X7_changes (nI n) N row (nI c) = some row' := by
  unfold f_X7_changes
  obtain ⟨y, row', h1, h2, h3⟩ := chg_loop (k := fun _ y9 => some y9) hN hN2 hn hw hc (n - 1) FU 0 row (by omega) (by show _ < 4096; omega) hR
  exact ⟨row', h1, h2, h3⟩
-- where a keeper is
theorem rockOf_loop {n w a : Nat} {fk fc : Nat → Int32} {k : Int32 → Option Int32} (hT : Tab n fk fc) (hn : n < 7) (hw : w < fac n) (ha : a < n) :
    ∀ (d f r : Nat), R n w a = r + d → d < f → lp_X5_rockOf_L2 (nI n) fk (nI w) (nI a) k f (nI r) = some (nI (R n w a)) := by
  have hRl := R_lt hn hw ha
  intro d
  induction d with
  | zero =>
    intro f r hr hf
    obtain ⟨f, rfl⟩ := pred1 hf
    unfold lp_X5_rockOf_L2
    have e : r = R n w a := by omega
    rw [if_neg (nI_ge (by omega) (by omega)), who_t hT hn hw (by omega), bs, if_pos (by rw [e, P_R hn hw ha]), e]
  | succ d ih =>
    intro f r hr hf
    obtain ⟨f, rfl⟩ := pred1 (Nat.lt_of_le_of_lt (Nat.zero_le _) hf)
    unfold lp_X5_rockOf_L2
    have h1 := P_lt hn hw (r := r) (by omega)
    have h2 := R_first hn hw (r := r) (by omega) ha (by omega)
    rw [if_neg (nI_ge (by omega) (by omega)), who_t hT hn hw (by omega), bs, if_neg (by rw [nEq (by omega) (by omega)]; exact h2), nI_1]
    exact ih f (r + 1) (by omega) (by omega)
theorem rockOf_x {n w a : Nat} {fk fc : Nat → Int32} (hT : Tab n fk fc) (hn : n < 7) (hw : w < fac n) (ha : a < n) : f_X5_rockOf (nI n) fk (nI w) (nI a) = some (nI (R n w a)) := by
  unfold f_X5_rockOf
  have hRl := R_lt hn hw ha
  exact rockOf_loop hT hn hw ha (R n w a) FU 0 (by omega) (by show _ < 4096; omega)
theorem rockOfm_loop {n w a N : Nat} {row : Nat → Int32} {k : Int32 → Option Int32} (hR : Row n w row) (hN : 6 ≤ N) (hN2 : N < 1000) (hn : n < 7) (hw : w < fac n) (ha : a < n) :
    ∀ (d f r : Nat), R n w a = r + d → d < f → lp_X7_rockOf_L2 N row (nI a) k f (nI r) = k (nI (R n w a)) := by
  have hRl := R_lt hn hw ha
  intro d
  induction d with
  | zero =>
    intro f r hr hf
    obtain ⟨f, rfl⟩ := pred1 hf
    unfold lp_X7_rockOf_L2
    have e : r = R n w a := by omega
    rw [if_neg (nG (by omega) (by omega)), nC (by omega), hR r (by omega), if_pos (by rw [e, P_R hn hw ha]), e]
  | succ d ih =>
    intro f r hr hf
    obtain ⟨f, rfl⟩ := pred1 (Nat.lt_of_le_of_lt (Nat.zero_le _) hf)
    unfold lp_X7_rockOf_L2
    have h1 := P_lt hn hw (r := r) (by omega)
    have h2 := R_first hn hw (r := r) (by omega) ha (by omega)
    rw [if_neg (nG (by omega) (by omega)), nC (by omega), hR r (by omega), if_neg (by rw [nEq (by omega) (by omega)]; exact h2), nI_1]
    exact ih f (r + 1) (by omega) (by omega)
theorem rockOf_m {n w a N : Nat} {row : Nat → Int32} (hR : Row n w row) (hN : 6 ≤ N) (hN2 : N < 1000) (hn : n < 7) (hw : w < fac n) (ha : a < n) : f_X7_rockOf N row (nI a) = some (nI (R n w a)) := by
  unfold f_X7_rockOf
  have hRl := R_lt hn hw ha
  exact rockOfm_loop (k := fun y3 => some y3) hR hN hN2 hn hw ha (R n w a) FU 0 (by omega) (by show _ < 4096; omega)
