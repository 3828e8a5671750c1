/-! ===== 53.state: now and what is remembered ===== -/
def EN (n : Nat) (way moons burnt out : Int32) (st : Nat → Int32) (o : Nat) : Prop := ∃ w m b t : Nat, w < fac n ∧ m ≤ 99 ∧ t < 64 ∧ way = nI w ∧ moons = nI m ∧ burnt = nI b ∧ out = nI t ∧ (∀ r, r < n → st (o + r) = nI (P n w r)) ∧ st (o + 6) = nI m ∧ st (o + 7) = nI b ∧ st (o + 8) = nI t
theorem en_to {n : Nat} {way moons burnt out : Int32} {st st' : Nat → Int32} {o o' : Nat} (hn : n < 7) (h : EN n way moons burnt out st o) (he : ∀ k, k < 9 → st' (o' + k) = st (o + k)) : EN n way moons burnt out st' o' := by
  obtain ⟨w, m, b, t, h1, h2, h3, h4, h5, h6, h7, h8, h9, h10, h11⟩ := h
  exact ⟨w, m, b, t, h1, h2, h3, h4, h5, h6, h7, fun r hr => by rw [he r (by omega)]; exact h8 r hr, by rw [he 6 (by omega)]; exact h9, by rw [he 7 (by omega)]; exact h10, by rw [he 8 (by omega)]; exact h11⟩
def HS (n : Nat) (known : Int32) (past st : Nat → Int32) (o : Nat) : Prop :=
  ∃ hk, hk ≤ 10 ∧ known = nI hk ∧ st (o + 9) = nI hk ∧ ∀ j, j < hk → EN n (past (4 * j)) (past (4 * j + 1)) (past (4 * j + 2)) (past (4 * j + 3)) st (o + (10 + 9 * j))
theorem rem69 {b : Nat} {st : Nat → Int32} {k : Int32 → (Nat → Int32) → Option (Nat → Int32)} (hb : 9 ≤ b) (hb2 : b + 9 ≤ 100) : ∀ (d f j : Nat) (a : Nat → Int32), 9 = j + d → d < f → (∀ i, i < b ∨ b + j ≤ i → a i = st i) → (∀ q, q < j → a (b + q) = st q) →
    ∃ y a', (∀ i, i < b ∨ b + 9 ≤ i → a' i = st i) ∧ (∀ q, q < 9 → a' (b + q) = st q) ∧ lp_X7_remembers_L69 (nI b) k f (nI j) a = k y a' := by
  intro d
  induction d with
  | zero =>
    intro f j a hj hf h1 h2
    obtain ⟨f, rfl⟩ := pred1 hf
    unfold lp_X7_remembers_L69
    refine ⟨nI j, a, fun i hi => h1 i (by omega), fun q hq => h2 q (by omega), ?_⟩
    rw [if_pos (show (9 : Int32) ≤ nI j from nI_le (a := 9) (by omega) (by omega))]
  | succ d ih =>
    intro f j a hj hf h1 h2
    obtain ⟨f, rfl⟩ := pred1 (Nat.lt_of_le_of_lt (Nat.zero_le _) hf)
    unfold lp_X7_remembers_L69
    rw [if_neg (show ¬ (9 : Int32) ≤ nI j from nI_ge (b := 9) (by omega) (by omega)), if_neg (nG (by omega) (by omega)), nA, if_neg (nG (by omega) (by omega)), nC (by omega), nC (by omega), nI_1]
    refine ih f (j + 1) _ (by omega) (by omega) (fun i hi => ?_) (fun q hq => ?_)
    · rw [pk_un (by omega)]; exact h1 i (by omega)
    · by_cases e : q = j
      · subst e; rw [pk_us]; exact h1 q (by omega)
      · rw [pk_un (by omega)]; exact h2 q (by omega)
theorem rem15 {st : Nat → Int32} {k : Int32 → (Nat → Int32) → Option (Nat → Int32)} : ∀ (d f j : Nat) (a : Nat → Int32), 91 = j + d → 10 ≤ j → d < f → (∀ i, i < 10 ∨ j ≤ i → a i = st i) → (∀ q, 10 ≤ q → q < j → a q = st (q + 9)) →
    ∃ y a', (∀ i, i < 10 ∨ 91 ≤ i → a' i = st i) ∧ (∀ q, 10 ≤ q → q < 91 → a' q = st (q + 9)) ∧ lp_X7_remembers_L15 k f (nI j) a = k y a' := by
  intro d
  induction d with
  | zero =>
    intro f j a hj hj2 hf h1 h2
    obtain ⟨f, rfl⟩ := pred1 hf
    unfold lp_X7_remembers_L15
    refine ⟨nI j, a, fun i hi => h1 i (by omega), fun q hq hq2 => h2 q hq (by omega), ?_⟩
    rw [if_pos (show (91 : Int32) ≤ nI j from nI_le (a := 91) (by omega) (by omega))]
  | succ d ih =>
    intro f j a hj hj2 hf h1 h2
    obtain ⟨f, rfl⟩ := pred1 (Nat.lt_of_le_of_lt (Nat.zero_le _) hf)
    unfold lp_X7_remembers_L15
    have e9 : nI j + 9 = nI (j + 9) := by rw [show (9 : Int32) = nI 9 from rfl, nA]
    rw [if_neg (show ¬ (91 : Int32) ≤ nI j from nI_ge (b := 91) (by omega) (by omega)), e9, if_neg (nG (by omega) (by omega)), if_neg (nG (by omega) (by omega)), nC (by omega), nC (by omega), nI_1]
    refine ih f (j + 1) _ (by omega) (by omega) (by omega) (fun i hi => ?_) (fun q hq hq2 => ?_)
    · rw [pk_un (by omega)]; exact h1 i (by omega)
    · by_cases e : q = j
      · subst e; rw [pk_us]; exact h1 (q + 9) (by omega)
      · rw [pk_un (by omega)]; exact h2 q hq (by omega)
theorem rem_m {st : Nat → Int32} {hk : Nat} (hh : hk ≤ 10) (h9 : st 9 = nI hk) : ∃ st', f_X7_remembers st = some st' ∧ (∀ k, k < 9 → st' k = st k) ∧
    ((hk < 10 ∧ st' 9 = nI (hk + 1) ∧ (∀ j k, j < hk → k < 9 → st' (10 + 9 * j + k) = st (10 + 9 * j + k)) ∧ ∀ k, k < 9 → st' (10 + 9 * hk + k) = st k) ∨
     (hk = 10 ∧ st' 9 = nI 10 ∧ (∀ j k, j < 9 → k < 9 → st' (10 + 9 * j + k) = st (10 + 9 * (j + 1) + k)) ∧ ∀ k, k < 9 → st' (91 + k) = st k)) := by
  have c9 : (Int32.toNatClampNeg 9) = 9 := by decide
  have e10 : ∀ x : Nat, (10 : Int32) + 9 * nI x = nI (10 + 9 * x) := fun x => by rw [show (10 : Int32) = nI 10 from rfl, show (9 : Int32) = nI 9 from rfl, nM, nA]
  unfold f_X7_remembers
  rw [c9, h9]
  by_cases z : hk = 10
  · subst z
    rw [if_pos (show nI 10 = 10 from rfl)]
    obtain ⟨y, a, a1, a2, a3⟩ := rem15 (st := st) (k := fun y10 y11 => lp_X7_remembers_L69 (10 + (9 * ((upd y11 9 ((y11 9) - 1)) 9))) (fun y12 y13 => some (upd y13 9 ((y13 9) + 1))) FU 0 (upd y11 9 ((y11 9) - 1))) 81 FU 10 st (by omega) (by omega) (by show _ < 4096; omega) (fun i _ => rfl) (fun q h1 h2 => by omega)
    have h9a : a 9 - 1 = nI 9 := by rw [a1 9 (by omega), h9]; decide
    obtain ⟨y2, a', b1, b2, b3⟩ := rem69 (b := 91) (st := upd a 9 (nI 9)) (k := fun y12 y13 => some (upd y13 9 ((y13 9) + 1))) (by omega) (by omega) 9 FU 0 (upd a 9 (nI 9)) (by omega) (by show _ < 4096; omega) (fun i _ => rfl) (fun q hq => by omega)
    refine ⟨upd a' 9 ((a' 9) + 1), ?_, fun k hk => ?_, Or.inr ⟨rfl, ?_, fun j k hj hk => ?_, fun k hk => ?_⟩⟩
    · refine a3.trans ?_
      show lp_X7_remembers_L69 (10 + (9 * ((upd a 9 ((a 9) - 1)) 9))) (fun y12 y13 => some (upd y13 9 ((y13 9) + 1))) FU 0 (upd a 9 ((a 9) - 1)) = _
      rw [h9a, pk_us, e10]
      exact b3
    · rw [pk_un (by omega), b1 k (by omega), pk_un (by omega), a1 k (by omega)]
    · rw [pk_us, b1 9 (by omega), pk_us, nI_1]
    · rw [pk_un (by omega), b1 _ (by omega), pk_un (by omega), a2 _ (by omega) (by omega)]
      rw [show 10 + 9 * j + k + 9 = 10 + 9 * (j + 1) + k by omega]
    · rw [pk_un (by omega), b2 k hk, pk_un (by omega), a1 k (by omega)]
  · rw [if_neg (show ¬ nI hk = 10 from by rw [show (10 : Int32) = nI 10 from rfl, nEq (by omega) (by omega)]; exact z), e10]
    obtain ⟨y2, a', b1, b2, b3⟩ := rem69 (b := 10 + 9 * hk) (st := st) (k := fun y12 y13 => some (upd y13 9 ((y13 9) + 1))) (by omega) (by omega) 9 FU 0 st (by omega) (by show _ < 4096; omega) (fun i _ => rfl) (fun q hq => by omega)
    refine ⟨upd a' 9 ((a' 9) + 1), b3, fun k hk2 => ?_, Or.inl ⟨by omega, ?_, fun j k hj hk2 => ?_, fun k hk2 => ?_⟩⟩
    · rw [pk_un (by omega), b1 k (by omega)]
    · rw [pk_us, b1 9 (by omega), h9, nI_1]
    · rw [pk_un (by omega), b1 _ (by omega)]
    · rw [pk_un (by omega), b2 k hk2]
theorem rem_x {way moons burnt out : Int32} {past : Nat → Int32} {hk : Nat} (hh : hk ≤ 10) : ∃ past', (hk < 10 ∧ f_X0_remember way moons burnt out (nI hk) past = some (nI (hk + 1), past') ∧ (∀ i, i < 4 * hk → past' i = past i) ∧ past' (4 * hk) = way ∧ past' (4 * hk + 1) = moons ∧ past' (4 * hk + 2) = burnt ∧ past' (4 * hk + 3) = out) ∨
    (hk = 10 ∧ f_X0_remember way moons burnt out (nI hk) past = some (nI 10, past') ∧ (∀ i, i < 36 → past' i = past (i + 4)) ∧ past' 36 = way ∧ past' 37 = moons ∧ past' 38 = burnt ∧ past' 39 = out) := by
  unfold f_X0_remember
  by_cases z : hk = 10
  · subst z
    rw [if_neg (show ¬ nI 10 < 10 by decide), show (9 * 4 : Int32) = nI 36 from rfl, put_in (by omega) (by omega), bs, show nI 36 + 1 = nI 37 from rfl, put_in (by omega) (by omega), bs, show nI 36 + 2 = nI 38 from rfl, put_in (by omega) (by omega), bs, show nI 36 + 3 = nI 39 from rfl, put_in (by omega) (by omega), bs]
    refine ⟨_, Or.inr ⟨rfl, rfl, fun i hi => ?_, ?_, ?_, ?_, ?_⟩⟩
    · rw [pk_un (by omega), pk_un (by omega), pk_un (by omega), pk_un (by omega)]
      show va_cpy past past 4 0 36 i = _
      unfold va_cpy
      rw [if_pos (by omega)]
      congr 1
      omega
    · rw [pk_un (by omega), pk_un (by omega), pk_un (by omega), pk_us]
    · rw [pk_un (by omega), pk_un (by omega), pk_us]
    · rw [pk_un (by omega), pk_us]
    · rw [pk_us]
  · rw [if_pos (show nI hk < (10 : Int32) from nI_lt (b := 10) (by omega) (by omega)), show nI hk * 4 = nI (4 * hk) from by rw [show (4 : Int32) = nI 4 from rfl, nM, Nat.mul_comm], put_in (by omega) (by omega), bs, show nI (4 * hk) + 1 = nI (4 * hk + 1) from nI_add _ 1, put_in (by omega) (by omega), bs, show nI (4 * hk) + 2 = nI (4 * hk + 2) from nI_add _ 2, put_in (by omega) (by omega), bs, show nI (4 * hk) + 3 = nI (4 * hk + 3) from nI_add _ 3, put_in (by omega) (by omega), bs, nI_1]
    refine ⟨_, Or.inl ⟨by omega, rfl, fun i hi => ?_, ?_, ?_, ?_, ?_⟩⟩
    · rw [pk_un (by omega), pk_un (by omega), pk_un (by omega), pk_un (by omega)]
    · rw [pk_un (by omega), pk_un (by omega), pk_un (by omega), pk_us]
    · rw [pk_un (by omega), pk_un (by omega), pk_us]
    · rw [pk_un (by omega), pk_us]
    · rw [pk_us]
theorem rem_HS {n : Nat} {way moons burnt out known : Int32} {past st : Nat → Int32} (hn : n < 7) (hE : EN n way moons burnt out st 0) (hH : HS n known past st 0) :
    ∃ known' past' st', f_X0_remember way moons burnt out known past = some (known', past') ∧ f_X7_remembers st = some st' ∧ (∀ k, k < 9 → st' k = st k) ∧ HS n known' past' st' 0 := by
  obtain ⟨hk, h1, h2, h3, h4⟩ := hH
  have h3 : st 9 = nI hk := h3
  obtain ⟨st', m1, m2, m3⟩ := rem_m h1 h3
  obtain ⟨past', x1⟩ := rem_x (way := way) (moons := moons) (burnt := burnt) (out := out) (past := past) h1
  rw [h2]
  rcases x1 with ⟨z, x1, x2, x3, x4, x5, x6⟩ | ⟨z, x1, x2, x3, x4, x5, x6⟩
  · rcases m3 with ⟨-, m3, m4, m5⟩ | ⟨z2, -⟩
    · refine ⟨nI (hk + 1), past', st', x1, m1, m2, hk + 1, by omega, rfl, m3, fun j hj => ?_⟩
      by_cases e : j = hk
      · subst e
        rw [x3, x4, x5, x6]
        exact en_to hn hE (fun k hk => by rw [Nat.zero_add, Nat.zero_add]; exact m5 k hk)
      · rw [x2 _ (by omega), x2 _ (by omega), x2 _ (by omega), x2 _ (by omega)]
        exact en_to hn (h4 j (by omega)) (fun k hk2 => by rw [Nat.zero_add]; exact m4 j k (by omega) hk2)
    · omega
  · rcases m3 with ⟨z2, -⟩ | ⟨-, m3, m4, m5⟩
    · omega
    · refine ⟨nI 10, past', st', x1, m1, m2, 10, by omega, rfl, m3, fun j hj => ?_⟩
      by_cases e : j = 9
      · subst e
        show EN n (past' 36) (past' 37) (past' 38) (past' 39) st' _
        rw [x3, x4, x5, x6]
        exact en_to hn hE (fun k hk => by rw [Nat.zero_add, Nat.zero_add]; exact m5 k hk)
      · rw [x2 _ (by omega), x2 _ (by omega), x2 _ (by omega), x2 _ (by omega)]
        have := h4 (j + 1) (by omega)
        rw [show 4 * j + 4 = 4 * (j + 1) by omega, show 4 * j + 1 + 4 = 4 * (j + 1) + 1 by omega, show 4 * j + 2 + 4 = 4 * (j + 1) + 2 by omega, show 4 * j + 3 + 4 = 4 * (j + 1) + 3 by omega]
        exact en_to hn this (fun k hk2 => by rw [Nat.zero_add, Nat.zero_add]; exact m4 j k (by omega) hk2)
