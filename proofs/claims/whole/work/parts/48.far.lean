/-! ===== 48.far: the reference's findFar is that search as well ===== -/
theorem nH {a N : Nat} (h : a < N) (hN : N < 2 ^ 31) : ¬ (nI a < 0 ∨ N ≤ a) := fun z => by
  rcases z with z | z
  · exact nP (by omega) z
  · omega
theorem safe_m {n sg w : Nat} {fl : Nat → Nat} {row flash : Nat → Int32} (hR : Row n w row) (hn : n < 7) (hw : w < fac n) (hsg : sg < 6) (hff : ∀ a, a < n → flash a = nI (fl a)) (hfl : ∀ a, a < n → fl a < 10) (safe : Bool) :
    f_X7_isSafe (nI n) (nI sg) row flash (if safe = true then 1 else 0) = some (if sff n sg fl safe w = true then 1 else 0) := by
  unfold f_X7_isSafe
  cases safe with
  | false =>
    rw [if_neg (show ¬ (false = true) by decide), if_pos rfl, if_pos (show sff n sg fl false w = true from rfl)]
  | true =>
    have hLK := LK_le (sg := sg) (col := fun r => fl (P n w r)) hn
    rw [if_pos (show true = true from rfl), if_neg (show ¬ (1 : Int32) = 0 by decide), likes_m hn (by omega) (by omega) hsg (fun r hr => hR r hr) (fun r hr => P_lt hn hw hr) hff hfl, bs]
    by_cases z : LK n sg (fun r => fl (P n w r)) = 0
    · have hs : sff n sg fl true w = true := by unfold sff; rw [z]; rfl
      rw [z, if_pos (show nI 0 = 0 from rfl), if_pos hs]
    · have hs : sff n sg fl true w = false := by unfold sff; simp [z]
      rw [if_neg (show ¬ nI (LK n sg (fun r => fl (P n w r))) = 0 from nI_ne0 (by omega) (by omega)), hs, if_neg (show ¬ (false = true) by decide)]
def RM (N : Nat) (S : BS) (far line : Nat → Int32) : Prop :=
  (∀ v d, v < N → S.1 v = some d → far v = nI d ∧ d ≤ S.2.2.2) ∧ (∀ v, v < N → S.1 v = none → far v = -1) ∧ (∀ v, N ≤ v → v < 720 → far v = -1) ∧ ∀ j, j < S.2.2.2 → line j = nI (S.2.2.1 j)
theorem rm_enter {N v d f : Nat} {S : BS} {far line : Nat → Int32} (hv : v < N) (hd : d ≤ S.2.2.2 + 1) (h : RM N S far line) : RM N (bEnter S v d f) (upd far v (nI d)) (upd line S.2.2.2 (nI v)) := by
  obtain ⟨h2, h3, h5, h4⟩ := h
  refine ⟨fun x e hx he => ?_, fun x hx he => ?_, fun x hx hx2 => ?_, fun j hj => ?_⟩
  · by_cases c : x = v
    · subst c
      have he : upO S.1 x d x = some e := he
      unfold upO at he
      rw [if_pos rfl] at he
      have hde : d = e := by cases he; rfl
      subst hde
      rw [pk_us]
      exact ⟨rfl, hd⟩
    · have he : upO S.1 v d x = some e := he
      unfold upO at he
      rw [if_neg c] at he
      rw [pk_un c]
      obtain ⟨g1, g2⟩ := h2 x e hx he
      exact ⟨g1, by show e ≤ S.2.2.2 + 1; omega⟩
  · by_cases c : x = v
    · subst c
      have he : upO S.1 x d x = none := he
      unfold upO at he
      rw [if_pos rfl] at he
      cases he
    · have he : upO S.1 v d x = none := he
      unfold upO at he
      rw [if_neg c] at he
      rw [pk_un c]
      exact h3 x hx he
  · rw [pk_un (by omega)]
    exact h5 x hx hx2
  · have hj : j < S.2.2.2 + 1 := hj
    show upd line S.2.2.2 (nI v) j = nI (upN S.2.2.1 S.2.2.2 v j)
    unfold upN
    by_cases c : j = S.2.2.2
    · subst c; rw [pk_us, if_pos rfl]
    · rw [pk_un c, if_neg c]; exact h4 j (by omega)
theorem far_in {n sg s i : Nat} {fl ht : Nat → Nat} {safe : Bool} {S0 : BS} {flash hates : Nat → Int32} {k : Int32 → Int32 → (Nat → Int32) → (Nat → Int32) → (Nat → Int32) → (Nat → Int32) → Option ((Nat → Int32) × (Nat → Int32) × (Nat → Int32) × (Nat → Int32))}
    (hC : Told6 n sg fl ht) (hff : ∀ a, a < n → flash a = nI (fl a)) (hfh : ∀ a, a < n → hates a = nI (ht a)) (hi : i < S0.2.2.2) (h0 : BInv (CH n) (okf n ht) (AF n) (sff n sg fl safe) (fac n) s i 0 S0) :
    ∀ (d f c m : Nat) (far line of at0 : Nat → Int32), 32 = c + d → 1 ≤ c → m + 1 ≤ CH n → (c = m + 1 ∨ (m + 1 = CH n ∧ CH n ≤ c)) → d < f → RM (fac n) (bU (okf n ht) (AF n) (sff n sg fl safe) (S0.2.2.1 i) m S0) far line →
      ∃ y far' line' of' at', RM (fac n) (bU (okf n ht) (AF n) (sff n sg fl safe) (S0.2.2.1 i) (CH n - 1) S0) far' line' ∧
        lp_X7_findFar_L50 (nI n) (nI sg) hates flash (if safe = true then 1 else 0) (nI i) k f (nI (bU (okf n ht) (AF n) (sff n sg fl safe) (S0.2.2.1 i) m S0).2.2.2) (nI c) far line of at0 = k (nI (bU (okf n ht) (AF n) (sff n sg fl safe) (S0.2.2.1 i) (CH n - 1) S0).2.2.2) y far' line' of' at' := by
  obtain ⟨hn, hsg, hfl, hht, hsym⟩ := hC
  have h720 := fac_le n hn
  have hCl := CH_le n hn
  have hu : S0.2.2.1 i < fac n := h0.1 i hi
  intro d
  induction d with
  | zero =>
    intro f c m far line of at0 hc h1 hm hcm hf hR
    obtain ⟨f, rfl⟩ := pred1 hf
    have e : m = CH n - 1 := by omega
    subst e
    refine ⟨nI c, far, line, of, at0, hR, ?_⟩
    unfold lp_X7_findFar_L50
    rw [if_pos (show (32 : Int32) ≤ nI c from nI_le (a := 32) (by omega) (by omega))]
  | succ d ih =>
    intro f c m far line of at0 hc h1 hm hcm hf hR
    obtain ⟨f, rfl⟩ := pred1 (Nat.lt_of_le_of_lt (Nat.zero_le _) hf)
    obtain ⟨T, hTd⟩ : ∃ T, T = bU (okf n ht) (AF n) (sff n sg fl safe) (S0.2.2.1 i) m S0 := ⟨_, rfl⟩
    obtain ⟨j1, j2, j3⟩ := bInv_U (CH n) (okf n ht) (AF n) (sff n sg fl safe) hi (af_ok n hn) h0 m (by omega)
    rw [← hTd] at hR j1 j2 j3 ⊢
    have hqT := inv_q j1
    have hline : line i = nI (S0.2.2.1 i) := by rw [← j3]; exact hR.2.2.2 i j2
    obtain ⟨of1, at1, a1, -, a2⟩ := isWay_m (f_of := of) (f_at := at0) hn hu
    unfold lp_X7_findFar_L50
    rw [if_neg (show ¬ (32 : Int32) ≤ nI c from nI_ge (b := 32) (by omega) (by omega)), if_neg (nG (by omega) (by omega)), nC (by omega : i < 2 ^ 31), hline, a2, bs, isChange_m n hn c (by omega), bs]
    by_cases cc : c < CH n
    · have ec : c = m + 1 := by omega
      subst ec
      obtain ⟨k1, k2, k3⟩ := bInv_U (CH n) (okf n ht) (AF n) (sff n sg fl safe) hi (af_ok n hn) h0 (m + 1) (by omega)
      have hnext : bU (okf n ht) (AF n) (sff n sg fl safe) (S0.2.2.1 i) (m + 1) S0 = bC (okf n ht) (AF n) (sff n sg fl safe) (S0.2.2.1 i) (m + 1) T := by rw [hTd]; rfl
      have ih' := fun (far line of at0 : Nat → Int32) => ih f (m + 2) (m + 1) far line of at0 (by omega) (by omega) (by omega) (by omega) (by omega)
      rw [hnext] at ih' k1 k2 k3
      rw [if_pos cc, if_neg (show ¬ (1 : Int32) = 0 by decide), may_m (ht := ht) a1 (by omega) (by omega) hn hu (by omega) (fun a ha => ⟨hfh a ha, hht a ha⟩), bs, nA1 (m + 1)]
      have hok : AL n (okr n (S0.2.2.1 i) ht) (m + 1) = okf n ht (S0.2.2.1 i) (m + 1) := rfl
      rw [hok]
      cases hb : okf n ht (S0.2.2.1 i) (m + 1)
      · have e : bC (okf n ht) (AF n) (sff n sg fl safe) (S0.2.2.1 i) (m + 1) T = T := by unfold bC; rw [if_neg (by rw [hb]; simp)]
        rw [e] at ih'
        rw [if_neg (show ¬ (false = true) by decide), if_pos rfl]
        exact ih' far line of1 at1 hR
      · obtain ⟨row2, b1, -, b2⟩ := chg_m (N := 6) a1 (by omega) (by omega) hn hu (show m + 1 < 32 by omega)
        have hv : AF n (S0.2.2.1 i) (m + 1) < fac n := AF_lt hn hu
        rw [if_pos (show true = true from rfl), if_neg (show ¬ (1 : Int32) = 0 by decide), b2, bs, wayOf_m (N := 6) b1 (by omega) (by omega) hn hv, bs, if_neg (nG (by omega) (by omega)), nC (by omega : AF n (S0.2.2.1 i) (m + 1) < 2 ^ 31)]
        cases ev : T.1 (AF n (S0.2.2.1 i) (m + 1)) with
        | some dv =>
          obtain ⟨g1, g2⟩ := hR.1 _ dv hv ev
          have e : bC (okf n ht) (AF n) (sff n sg fl safe) (S0.2.2.1 i) (m + 1) T = T := by unfold bC; rw [if_neg (by rw [ev]; simp)]
          rw [e] at ih'
          rw [g1, if_pos (show (0 : Int32) ≤ nI dv from nI_le (a := 0) (by omega) (by omega))]
          exact ih' far line of1 row2 hR
        | none =>
          rw [hR.2.1 _ hv ev, if_neg (show ¬ (0 : Int32) ≤ -1 by decide), safe_m b1 hn hv hsg hff (fun a ha => (hfl a ha).2), bs]
          cases es : sff n sg fl safe (AF n (S0.2.2.1 i) (m + 1)) with
          | false =>
            have e : bC (okf n ht) (AF n) (sff n sg fl safe) (S0.2.2.1 i) (m + 1) T = T := by unfold bC; rw [if_neg (by rw [es]; simp)]
            rw [e] at ih'
            rw [if_neg (show ¬ (false = true) by decide), if_pos rfl]
            exact ih' far line of1 row2 hR
          | true =>
            have hvis : T.1 (S0.2.2.1 i) ≠ none := (j1.2.2.1 _).mpr ⟨i, j2, j3⟩
            have hso : T.1 (S0.2.2.1 i) = some (bD T (S0.2.2.1 i)) := by
              unfold bD
              cases e : T.1 (S0.2.2.1 i) with
              | none => exact absurd e hvis
              | some d => rfl
            obtain ⟨r1, r2⟩ := hR.1 _ _ hu hso
            have hqn : T.2.2.2 < fac n := by
              have := inv_q k1
              unfold bC at this
              rw [if_pos ⟨hb, ev, es⟩] at this
              have this : T.2.2.2 + 1 ≤ fac n := this
              omega
            have e : bC (okf n ht) (AF n) (sff n sg fl safe) (S0.2.2.1 i) (m + 1) T = bEnter T (AF n (S0.2.2.1 i) (m + 1)) (bD T (S0.2.2.1 i) + 1) (if bD T (S0.2.2.1 i) = 0 then m + 1 else T.2.1 (S0.2.2.1 i)) := by
              unfold bC
              rw [if_pos ⟨hb, ev, es⟩]
            rw [e] at ih'
            have fin := ih' _ _ of1 row2 (rm_enter (f := if bD T (S0.2.2.1 i) = 0 then m + 1 else T.2.1 (S0.2.2.1 i)) hv (by omega) hR)
            rw [if_pos (show true = true from rfl), if_neg (show ¬ (1 : Int32) = 0 by decide), if_neg (nH (by omega) (by omega)), if_neg (nG (by omega) (by omega)), if_neg (nH (by omega) (by omega)), if_neg (nG (by omega) (by omega)), nC (by omega : S0.2.2.1 i < 2 ^ 31), nC (by omega : T.2.2.2 < 2 ^ 31), r1, nA1 T.2.2.2, nA1 (bD T (S0.2.2.1 i))]
            exact fin
    · have ec : m + 1 = CH n := by omega
      rw [if_neg cc, if_pos rfl, nA1 c]
      have := ih f (c + 1) m far line of1 at1 (by omega) (by omega) (by omega) (by omega) (by omega)
      rw [← hTd] at this
      exact this hR
/-- what a search of the reference's has found -/
def FoundM (n sg : Nat) (fl ht : Nat → Nat) (safe : Bool) (s : Nat) (far : Nat → Int32) : Prop :=
  (∀ v, v < fac n → match (BE n sg fl ht safe s).1 v with
    | some d => far v = nI d ∧ d ≤ 720
    | none => far v = -1) ∧ ∀ v, fac n ≤ v → v < 720 → far v = -1
theorem far_out {n sg s : Nat} {fl ht : Nat → Nat} {safe : Bool} {flash hates : Nat → Int32} {k : Int32 → Int32 → (Nat → Int32) → (Nat → Int32) → (Nat → Int32) → (Nat → Int32) → Option ((Nat → Int32) × (Nat → Int32) × (Nat → Int32) × (Nat → Int32))}
    (hC : Told6 n sg fl ht) (hff : ∀ a, a < n → flash a = nI (fl a)) (hfh : ∀ a, a < n → hates a = nI (ht a)) (hs : s < fac n) :
    ∀ (d f i : Nat) (far line of at0 : Nat → Int32), 720 = i + d → d < f → RM (fac n) (BEi n sg fl ht safe s i) far line →
      ∃ y q far' line' of' at', FoundM n sg fl ht safe s far' ∧ lp_X7_findFar_L41 (nI n) (nI sg) hates flash (if safe = true then 1 else 0) k f (nI (BEi n sg fl ht safe s i).2.2.2) (nI i) far line of at0 = k q y far' line' of' at' := by
  obtain ⟨hn, hsg, hfl, hht, hsym⟩ := id hC
  have h720 := fac_le n hn
  have hCl := CH_le n hn
  have hI := fun i => bInv_I (CH n) (okf n ht) (AF n) (sff n sg fl safe) hCl.2 (af_ok n hn) (bInv_0 (CH n) (okf n ht) (AF n) (sff n sg fl safe) (F := fun _ => 0) (Q := fun _ => 0) hs) i
  have hqi : ∀ i, (BEi n sg fl ht safe s i).2.2.2 ≤ fac n := fun i => by
    rcases Nat.lt_or_ge (BEi n sg fl ht safe s i).2.2.2 i with z | z
    · exact inv_q ((hI i).2 z)
    · exact inv_q ((hI i).1 z)
  have hend : ∀ (i : Nat) (far line : Nat → Int32), (BEi n sg fl ht safe s i).2.2.2 ≤ i → RM (fac n) (BEi n sg fl ht safe s i) far line → FoundM n sg fl ht safe s far := by
    intro i far line hle hR
    refine ⟨fun v hv => ?_, hR.2.2.1⟩
    have e : BE n sg fl ht safe s = BEi n sg fl ht safe s i := by
      rcases Nat.le_total i (fac n) with z | z
      · have := bI_stay (C := CH n) (ok := okf n ht) (af := AF n) (sf := sff n sg fl safe) (S := b0' s) (i := i) hle (fac n - i)
        rw [show i + (fac n - i) = fac n by omega] at this
        exact this
      · have := bI_stay (C := CH n) (ok := okf n ht) (af := AF n) (sf := sff n sg fl safe) (S := b0' s) (i := fac n) (hqi (fac n)) (i - fac n)
        rw [show fac n + (i - fac n) = i by omega] at this
        exact this.symm
    rw [e]
    cases ed : (BEi n sg fl ht safe s i).1 v with
    | some dd =>
      obtain ⟨g1, g2⟩ := hR.1 v dd hv ed
      have := hqi i
      exact ⟨g1, by omega⟩
    | none => exact hR.2.1 v hv ed
  intro d
  induction d with
  | zero =>
    intro f i far line of at0 hi hf hR
    obtain ⟨f, rfl⟩ := pred1 hf
    have := hqi i
    refine ⟨nI i, nI (BEi n sg fl ht safe s i).2.2.2, far, line, of, at0, hend i far line (by omega) hR, ?_⟩
    unfold lp_X7_findFar_L41
    rw [if_pos (nI_le (by omega) (by omega))]
  | succ d ih =>
    intro f i far line of at0 hi hf hR
    obtain ⟨f, rfl⟩ := pred1 (Nat.lt_of_le_of_lt (Nat.zero_le _) hf)
    have hq := hqi i
    rcases Nat.lt_or_ge i (BEi n sg fl ht safe s i).2.2.2 with z | z
    · have hb : BInv (CH n) (okf n ht) (AF n) (sff n sg fl safe) (fac n) s i 0 (BEi n sg fl ht safe s i) := (hI i).1 (Nat.le_of_lt z)
      obtain ⟨y, far', line', of', at', e1, e2⟩ := far_in (k := fun y24 y25 y26 y27 y28 y29 => lp_X7_findFar_L41 (nI n) (nI sg) hates flash (if safe = true then 1 else 0) k f y24 (nI i + 1) y26 y27 y28 y29) (safe := safe) hC hff hfh z hb 31 FU 1 0 far line of at0 (by omega) (by omega) (by omega) (by omega) (by show _ < 4096; omega) hR
      have hnx : BEi n sg fl ht safe s (i + 1) = bU (okf n ht) (AF n) (sff n sg fl safe) ((BEi n sg fl ht safe s i).2.2.1 i) (CH n - 1) (BEi n sg fl ht safe s i) := by
        show (if i < (BEi n sg fl ht safe s i).2.2.2 then _ else _) = _
        rw [if_pos z]
        rfl
      rw [← hnx] at e1 e2
      obtain ⟨y2, q2, far2, line2, of2, at2, g1, g2⟩ := ih f (i + 1) far' line' of' at' (by omega) (by omega) e1
      refine ⟨y2, q2, far2, line2, of2, at2, g1, ?_⟩
      unfold lp_X7_findFar_L41
      rw [if_neg (nI_ge (by omega) (by omega))]
      refine e2.trans ?_
      rw [nI_1]
      exact g2
    · refine ⟨nI i, nI (BEi n sg fl ht safe s i).2.2.2, far, line, of, at0, hend i far line z hR, ?_⟩
      unfold lp_X7_findFar_L41
      rw [if_pos (nI_le z (by omega))]
theorem fill_m {k : Int32 → (Nat → Int32) → Option ((Nat → Int32) × (Nat → Int32) × (Nat → Int32) × (Nat → Int32))} : ∀ (d f j : Nat) (a : Nat → Int32), 720 = j + d → d < f → (∀ i, i < j → a i = -1) → ∃ y a', (∀ i, i < 720 → a' i = -1) ∧ lp_X7_findFar_L2 k f (nI j) a = k y a' := by
  intro d
  induction d with
  | zero =>
    intro f j a hj hf ha
    obtain ⟨f, rfl⟩ := pred1 hf
    unfold lp_X7_findFar_L2
    refine ⟨nI j, a, fun i hi => ha i (by omega), ?_⟩
    rw [if_pos (show (720 : Int32) ≤ nI j from nI_le (a := 720) (by omega) (by omega))]
  | succ d ih =>
    intro f j a hj hf ha
    obtain ⟨f, rfl⟩ := pred1 (Nat.lt_of_le_of_lt (Nat.zero_le _) hf)
    unfold lp_X7_findFar_L2
    rw [if_neg (show ¬ (720 : Int32) ≤ nI j from nI_ge (b := 720) (by omega) (by omega)), if_neg (nG (by omega) (by omega)), nC (by omega), nI_1]
    refine ih f (j + 1) _ (by omega) (by omega) (fun i hi => ?_)
    by_cases e : i = j
    · subst e; rw [pk_us]
    · rw [pk_un e]; exact ha i (by omega)
theorem findFar_m {n sg s : Nat} {fl ht : Nat → Nat} {safe : Bool} {flash hates far line of at0 : Nat → Int32}
    (hC : Told6 n sg fl ht) (hff : ∀ a, a < n → flash a = nI (fl a)) (hfh : ∀ a, a < n → hates a = nI (ht a)) (hs : s < fac n) :
    ∃ far' line' of' at', FoundM n sg fl ht safe s far' ∧ f_X7_findFar (nI n) (nI sg) far line of at0 hates flash (nI s) (if safe = true then 1 else 0) = some (far', line', of', at') := by
  obtain ⟨hn, -⟩ := id hC
  have h720 := fac_le n hn
  unfold f_X7_findFar
  obtain ⟨y, a, a1, a2⟩ := fill_m (k := fun y3 y4 =>
      if nI s < 0 ∨ 720 ≤ (nI s).toNatClampNeg then none else
      lp_X7_findFar_L41 (nI n) (nI sg) hates flash (if safe = true then 1 else 0) (fun y30 y31 y32 y33 y34 y35 =>
          some (y32, y33, y34, y35))
        FU 1 0 (upd y4 (nI s).toNatClampNeg 0) (upd line (Int32.toNatClampNeg 0) (nI s)) of at0) 720 FU 0 far (by omega) (by show _ < 4096; omega) (fun i hi => by omega)
  have h0 : RM (fac n) (BEi n sg fl ht safe s 0) (upd a s 0) (upd line 0 (nI s)) := by
    refine ⟨fun v d hv hd => ?_, fun v hv hd => ?_, fun v hv hv2 => ?_, fun j hj => ?_⟩
    · have hd : (if v = s then some 0 else none) = some d := hd
      by_cases c : v = s
      · subst c
        rw [if_pos rfl] at hd
        cases hd
        rw [pk_us]
        exact ⟨rfl, Nat.zero_le _⟩
      · rw [if_neg c] at hd; cases hd
    · have hd : (if v = s then some 0 else none) = none := hd
      by_cases c : v = s
      · rw [if_pos c] at hd; cases hd
      · rw [pk_un c, a1 v (by omega)]
    · rw [pk_un (by omega), a1 v hv2]
    · have hj : j < 1 := hj
      have hQ : (BEi n sg fl ht safe s 0).2.2.1 j = s := by show upN (fun _ => 0) 0 s j = s; unfold upN; rw [if_pos (by omega)]
      rw [hQ, show j = 0 by omega, pk_us]
  obtain ⟨y2, q, far', line', of', at', g1, g2⟩ := far_out (k := fun y30 y31 y32 y33 y34 y35 => some (y32, y33, y34, y35)) (safe := safe) (of := of) (at0 := at0) hC hff hfh hs 720 FU 0 _ _ (by omega) (by show _ < 4096; omega) h0
  refine ⟨far', line', of', at', g1, ?_⟩
  refine a2.trans ?_
  show (if nI s < 0 ∨ 720 ≤ (nI s).toNatClampNeg then none else _) = _
  rw [if_neg (nG (by omega) (by omega)), nC (by omega)]
  exact g2
