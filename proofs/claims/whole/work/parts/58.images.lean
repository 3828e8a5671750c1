/-! ===== 58.images: keep, back ===== -/
def IM (n : Nat) (way moons burnt out known kept : Int32) (past im : Nat → Int32) (o : Nat) (ik : Int32) : Prop :=
  (kept = 0 ∧ ik = 0) ∨ (kept = 1 ∧ ik = 1 ∧ EN n way moons burnt out im o ∧ HS n known past im o)
theorem hs_to {n : Nat} {known : Int32} {past past' st st' : Nat → Int32} {o o' : Nat} (hn : n < 7) (h : HS n known past st o) (hp : ∀ i, i < 40 → past' i = past i) (he : ∀ k, k < 100 → st' (o' + k) = st (o + k)) : HS n known past' st' o' := by
  obtain ⟨hk, h1, h2, h3, h4⟩ := h
  refine ⟨hk, h1, h2, by rw [he 9 (by omega)]; exact h3, fun j hj => ?_⟩
  have := en_to (st' := st') (o' := o' + (10 + 9 * j)) hn (h4 j hj) (fun k hk => by
    have e1 : o' + (10 + 9 * j) + k = o' + (10 + 9 * j + k) := Nat.add_assoc _ _ _
    have e2 : o + (10 + 9 * j) + k = o + (10 + 9 * j + k) := Nat.add_assoc _ _ _
    rw [e1, e2]
    exact he _ (by omega))
  rw [hp _ (by omega), hp _ (by omega), hp _ (by omega), hp _ (by omega)]
  exact this
theorem im_to {n : Nat} {way moons burnt out known kept ik : Int32} {past im im' : Nat → Int32} {o : Nat} (hn : n < 7) (h : IM n way moons burnt out known kept past im o ik) (he : ∀ k, k < 100 → im' (o + k) = im (o + k)) : IM n way moons burnt out known kept past im' o ik := by
  rcases h with h | ⟨h1, h2, h3, h4⟩
  · exact Or.inl h
  · exact Or.inr ⟨h1, h2, en_to hn h3 (fun k hk => he k (by omega)), hs_to hn h4 (fun _ _ => rfl) he⟩
theorem keep_l {i : Nat} {st im0 : Nat → Int32} {k : Int32 → (Nat → Int32) → Option (Int32 × (Nat → Int32) × (Nat → Int32))} (hi : i < 2) :
    ∀ (d f j : Nat) (im : Nat → Int32), 100 = j + d → d < f → (∀ q, q < j → im (100 * i + q) = st q) → (∀ q, q < 100 * i ∨ 100 * i + 100 ≤ q → im q = im0 q) →
      ∃ y im', (∀ q, q < 100 → im' (100 * i + q) = st q) ∧ (∀ q, q < 100 * i ∨ 100 * i + 100 ≤ q → im' q = im0 q) ∧ lp_X7_keep_L13 st (nI i) k f (nI j) im = k y im' := by
  intro d
  induction d with
  | zero =>
    intro f j im hj hf h1 h2
    obtain ⟨f, rfl⟩ := pred1 hf
    unfold lp_X7_keep_L13
    refine ⟨nI j, im, fun q hq => h1 q (by omega), h2, ?_⟩
    rw [if_pos (show (100 : Int32) ≤ nI j from nI_le (a := 100) (by omega) (by omega))]
  | succ d ih =>
    intro f j im hj hf h1 h2
    obtain ⟨f, rfl⟩ := pred1 (Nat.lt_of_le_of_lt (Nat.zero_le _) hf)
    unfold lp_X7_keep_L13
    have e : (100 : Int32) * nI i + nI j = nI (100 * i + j) := by rw [show (100 : Int32) = nI 100 from rfl, nM, nA]
    rw [if_neg (show ¬ (100 : Int32) ≤ nI j from nI_ge (b := 100) (by omega) (by omega)), if_neg (nG (by omega) (by omega)), e, if_neg (nG (by omega) (by omega)), nC (a := 100 * i + j) (by omega), nC (a := j) (by omega), nI_1]
    refine ih f (j + 1) _ (by omega) (by omega) (fun q hq => ?_) (fun q hq => ?_)
    · by_cases z : q = j
      · subst z; rw [pk_us]
      · rw [pk_un (by omega)]; exact h1 q (by omega)
    · rw [pk_un (by omega)]; exact h2 q hq
theorem back_l {i : Nat} {im : Nat → Int32} {k : Int32 → (Nat → Int32) → Option (Int32 × (Nat → Int32))} (hi : i < 2) :
    ∀ (d f j : Nat) (st : Nat → Int32), 100 = j + d → d < f → (∀ q, q < j → st q = im (100 * i + q)) → ∃ y st', (∀ q, q < 100 → st' q = im (100 * i + q)) ∧ lp_X7_back_L25 im (nI i) k f (nI j) st = k y st' := by
  intro d
  induction d with
  | zero =>
    intro f j st hj hf h1
    obtain ⟨f, rfl⟩ := pred1 hf
    unfold lp_X7_back_L25
    refine ⟨nI j, st, fun q hq => h1 q (by omega), ?_⟩
    rw [if_pos (show (100 : Int32) ≤ nI j from nI_le (a := 100) (by omega) (by omega))]
  | succ d ih =>
    intro f j st hj hf h1
    obtain ⟨f, rfl⟩ := pred1 (Nat.lt_of_le_of_lt (Nat.zero_le _) hf)
    unfold lp_X7_back_L25
    have e : (100 : Int32) * nI i + nI j = nI (100 * i + j) := by rw [show (100 : Int32) = nI 100 from rfl, nM, nA]
    rw [if_neg (show ¬ (100 : Int32) ≤ nI j from nI_ge (b := 100) (by omega) (by omega)), e, if_neg (nG (by omega) (by omega)), if_neg (nG (by omega) (by omega)), nC (a := 100 * i + j) (by omega), nC (a := j) (by omega), nI_1]
    refine ih f (j + 1) _ (by omega) (by omega) (fun q hq => ?_)
    by_cases z : q = j
    · subst z; rw [pk_us]
    · rw [pk_un (by omega)]; exact h1 q (by omega)
theorem cp40 (p q : Nat → Int32) (i : Nat) (hi : i < 40) : va_cpy p q (Int32.toNatClampNeg 0) (Int32.toNatClampNeg 0) (Int32.toNatClampNeg 40) i = p i := by
  have c0 : (Int32.toNatClampNeg 0) = 0 := by decide
  have c40 : (Int32.toNatClampNeg 40) = 40 := by decide
  rw [c0, c40, cpy_at, if_pos (by omega)]
  rfl
theorem keep_m {i : Nat} {st im ik : Nat → Int32} {m : Int32} (hi : i < 2) (h6 : st 6 = m) : ∃ im', f_X7_keep im st ik (nI i) = some (m, im', upd ik i 1) ∧ (∀ q, q < 100 → im' (100 * i + q) = st q) ∧ (∀ q, q < 100 * i ∨ 100 * i + 100 ≤ q → im' q = im q) := by
  have c6 : (Int32.toNatClampNeg 6) = 6 := by decide
  have vb : vp_nar .boolean 1 = 1 := by decide
  have i1 : f_X7_in (nI i) 0 1 = some 1 := in_yes (nP (by omega)) (fun q => by rw [show (1 : Int32) = nI 1 from rfl, nLt (by omega) (by omega)] at q; omega)
  obtain ⟨y, im', a1, a2, a3⟩ := keep_l (i := i) (st := st) (im0 := im) (k := fun y6 y7 => if nI i < 0 ∨ 2 ≤ (nI i).toNatClampNeg then none else some ((st (Int32.toNatClampNeg 6)), y7, (upd ik (nI i).toNatClampNeg (vp_nar .boolean 1)))) hi 100 FU 0 im (by omega) (by show _ < 4096; omega) (fun q hq => by omega) (fun q _ => rfl)
  refine ⟨im', ?_, a1, a2⟩
  unfold f_X7_keep
  rw [i1, bs, if_neg (show ¬ (1 : Int32) = 0 by decide)]
  refine a3.trans ?_
  show (if nI i < 0 ∨ 2 ≤ (nI i).toNatClampNeg then none else some ((st (Int32.toNatClampNeg 6)), im', (upd ik (nI i).toNatClampNeg (vp_nar .boolean 1)))) = _
  rw [if_neg (nG (by omega) (by omega)), c6, h6, nC (by omega), vb]
theorem back_m {i : Nat} {st im ik : Nat → Int32} {m : Int32} (hi : i < 2) (hk : ik i = 1) (h6 : im (100 * i + 6) = m) : ∃ st', f_X7_back ik st im (nI i) = some (m, st') ∧ (∀ q, q < 100 → st' q = im (100 * i + q)) := by
  have c6 : (Int32.toNatClampNeg 6) = 6 := by decide
  have i1 : f_X7_in (nI i) 0 1 = some 1 := in_yes (nP (by omega)) (fun q => by rw [show (1 : Int32) = nI 1 from rfl, nLt (by omega) (by omega)] at q; omega)
  obtain ⟨y, st', a1, a2⟩ := back_l (i := i) (im := im) (k := fun _ y9 => some ((y9 (Int32.toNatClampNeg 6)), y9)) hi 100 FU 0 st (by omega) (by show _ < 4096; omega) (fun q hq => by omega)
  refine ⟨st', ?_, a1⟩
  unfold f_X7_back
  rw [i1, bs, if_neg (show ¬ (1 : Int32) = 0 by decide), if_neg (nG (by omega) (by omega)), nC (by omega), hk, if_neg (show ¬ (1 : Int32) = 0 by decide)]
  refine a2.trans ?_
  show some ((st' (Int32.toNatClampNeg 6)), st') = _
  rw [c6, a1 6 (by omega), h6]
theorem back_no {i : Nat} {st im ik : Nat → Int32} (hi : i < 2) (hk : ik i = 0) : f_X7_back ik st im (nI i) = some (-2, st) := by
  have i1 : f_X7_in (nI i) 0 1 = some 1 := in_yes (nP (by omega)) (fun q => by rw [show (1 : Int32) = nI 1 from rfl, nLt (by omega) (by omega)] at q; omega)
  unfold f_X7_back
  rw [i1, bs, if_neg (show ¬ (1 : Int32) = 0 by decide), if_neg (nG (by omega) (by omega)), nC (by omega), hk, if_pos rfl]
theorem keep_eq {n : Nat} {way moons burnt out known : Int32} {past st : Nat → Int32} {w0 m0 b0 o0 h0 k0 w1 m1 b1 o1 h1 k1 : Int32} {p0 p1 im ik : Nat → Int32} (hn : n < 7) (hE : EN n way moons burnt out st 0) (hH : HS n known past st 0)
    (hI0 : IM n w0 m0 b0 o0 h0 k0 p0 im 0 (ik 0)) (hI1 : IM n w1 m1 b1 o1 h1 k1 p1 im 100 (ik 1)) (x1 : Int32) :
    ∃ a w0' m0' b0' o0' h0' k0' w1' m1' b1' o1' h1' k1' p1' p0' im' ik', f_X6_keep w0 m0 b0 o0 h0 k0 w1 m1 b1 o1 h1 k1 way moons burnt out known past p1 p0 x1 = some (a, w0', m0', b0', o0', h0', k0', w1', m1', b1', o1', h1', k1', p1', p0') ∧ f_X7_keep im st ik x1 = some (a, im', ik') ∧
      IM n w0' m0' b0' o0' h0' k0' p0' im' 0 (ik' 0) ∧ IM n w1' m1' b1' o1' h1' k1' p1' im' 100 (ik' 1) := by
  obtain ⟨w, m, b, t, g1, g2, g3, g4, g5, g6, g7, g8, g9, g10, g11⟩ := id hE
  have g9 : st 6 = moons := by rw [g5]; exact g9
  rcases zo x1 with ⟨-, i1, z | z⟩ | ⟨-, i1, n0, n1⟩
  · subst z
    obtain ⟨im', a1, a2, a3⟩ := keep_m (i := 0) (im := im) (ik := ik) (by omega) g9
    refine ⟨moons, way, moons, burnt, out, known, 1, w1, m1, b1, o1, h1, k1, p1, va_cpy past p0 (Int32.toNatClampNeg 0) (Int32.toNatClampNeg 0) (Int32.toNatClampNeg 40), im', upd ik 0 1, rfl, a1, ?_, ?_⟩
    · refine Or.inr ⟨rfl, pk_us, en_to hn hE (fun k hk => ?_), hs_to hn hH (cp40 _ _) (fun k hk => ?_)⟩
      · rw [Nat.zero_add]; have := a2 k (by omega); rw [Nat.mul_zero, Nat.zero_add] at this; exact this
      · rw [Nat.zero_add]; have := a2 k (by omega); rw [Nat.mul_zero, Nat.zero_add] at this; exact this
    · rw [pk_un (by omega)]
      exact im_to hn hI1 (fun k hk => a3 _ (by omega))
  · subst z
    obtain ⟨im', a1, a2, a3⟩ := keep_m (i := 1) (im := im) (ik := ik) (by omega) g9
    refine ⟨moons, w0, m0, b0, o0, h0, k0, way, moons, burnt, out, known, 1, va_cpy past p1 (Int32.toNatClampNeg 0) (Int32.toNatClampNeg 0) (Int32.toNatClampNeg 40), p0, im', upd ik 1 1, rfl, a1, ?_, ?_⟩
    · rw [pk_un (by omega)]
      exact im_to hn hI0 (fun k hk => a3 _ (by omega))
    · refine Or.inr ⟨rfl, pk_us, en_to hn hE (fun k hk => ?_), hs_to hn hH (cp40 _ _) (fun k hk => ?_)⟩
      · rw [Nat.zero_add]; exact a2 k (by omega)
      · rw [Nat.zero_add]; exact a2 k (by omega)
  · refine ⟨-1, w0, m0, b0, o0, h0, k0, w1, m1, b1, o1, h1, k1, p1, p0, im, ik, ?_, ?_, hI0, hI1⟩
    · unfold f_X6_keep f_X6_imageOf
      rw [if_neg n0, if_neg n1, bs, if_neg (show ¬ (2 : Nat) = 0 by decide), if_neg (show ¬ (2 : Nat) = 1 by decide)]
    · unfold f_X7_keep
      rw [i1, bs, if_pos rfl]
theorem back_eq {n : Nat} {way moons burnt out known : Int32} {past st : Nat → Int32} {w0 m0 b0 o0 h0 k0 w1 m1 b1 o1 h1 k1 : Int32} {p0 p1 im ik : Nat → Int32} (hn : n < 7) (hE : EN n way moons burnt out st 0) (hH : HS n known past st 0)
    (hI0 : IM n w0 m0 b0 o0 h0 k0 p0 im 0 (ik 0)) (hI1 : IM n w1 m1 b1 o1 h1 k1 p1 im 100 (ik 1)) (x1 : Int32) :
    ∃ a way' moons' burnt' out' known' past' st', f_X6_back w0 m0 b0 o0 h0 k0 w1 m1 b1 o1 h1 k1 way moons burnt out known p1 past p0 x1 = some (a, way', moons', burnt', out', known', past') ∧ f_X7_back ik st im x1 = some (a, st') ∧
      EN n way' moons' burnt' out' st' 0 ∧ HS n known' past' st' 0 := by
  rcases zo x1 with ⟨-, i1, z | z⟩ | ⟨-, i1, n0, n1⟩
  · subst z
    rcases hI0 with ⟨q1, q2⟩ | ⟨q1, q2, q3, q4⟩
    · refine ⟨-2, way, moons, burnt, out, known, past, st, ?_, back_no (i := 0) (by omega) q2, hE, hH⟩
      unfold f_X6_back
      rw [show f_X6_imageOf 0 = some 0 from rfl, bs, if_pos rfl, if_pos q1]
    · obtain ⟨w, m, b, t, g1, g2, g3, g4, g5, g6, g7, g8, g9, g10, g11⟩ := id q3
      obtain ⟨st', a1, a2⟩ := back_m (i := 0) (st := st) (ik := ik) (m := m0) (by omega) q2 (by rw [g5]; exact g9)
      refine ⟨m0, w0, m0, b0, o0, h0, va_cpy p0 past (Int32.toNatClampNeg 0) (Int32.toNatClampNeg 0) (Int32.toNatClampNeg 40), st', ?_, a1, en_to hn q3 (fun k hk => ?_), hs_to hn q4 (cp40 _ _) (fun k hk => ?_)⟩
      · unfold f_X6_back
        rw [show f_X6_imageOf 0 = some 0 from rfl, bs, if_pos rfl, if_neg (by rw [q1]; decide)]
        rfl
      · rw [Nat.zero_add]; have := a2 k (by omega); rw [Nat.mul_zero, Nat.zero_add] at this; exact this
      · rw [Nat.zero_add]; have := a2 k (by omega); rw [Nat.mul_zero, Nat.zero_add] at this; exact this
  · subst z
    rcases hI1 with ⟨q1, q2⟩ | ⟨q1, q2, q3, q4⟩
    · refine ⟨-2, way, moons, burnt, out, known, past, st, ?_, back_no (i := 1) (by omega) q2, hE, hH⟩
      unfold f_X6_back
      rw [show f_X6_imageOf 1 = some 1 from rfl, bs, if_neg (show ¬ (1 : Nat) = 0 by decide), if_pos rfl, if_pos q1]
    · obtain ⟨w, m, b, t, g1, g2, g3, g4, g5, g6, g7, g8, g9, g10, g11⟩ := id q3
      obtain ⟨st', a1, a2⟩ := back_m (i := 1) (st := st) (ik := ik) (m := m1) (by omega) q2 (by rw [g5]; exact g9)
      refine ⟨m1, w1, m1, b1, o1, h1, va_cpy p1 past (Int32.toNatClampNeg 0) (Int32.toNatClampNeg 0) (Int32.toNatClampNeg 40), st', ?_, a1, en_to hn q3 (fun k hk => ?_), hs_to hn q4 (cp40 _ _) (fun k hk => ?_)⟩
      · unfold f_X6_back
        rw [show f_X6_imageOf 1 = some 1 from rfl, bs, if_neg (show ¬ (1 : Nat) = 0 by decide), if_pos rfl, if_neg (by rw [q1]; decide)]
        rfl
      · rw [Nat.zero_add]; exact a2 k (by omega)
      · rw [Nat.zero_add]; exact a2 k (by omega)
  · refine ⟨-1, way, moons, burnt, out, known, past, st, ?_, ?_, hE, hH⟩
    · unfold f_X6_back f_X6_imageOf
      rw [if_neg n0, if_neg n1, bs, if_neg (show ¬ (2 : Nat) = 0 by decide), if_neg (show ¬ (2 : Nat) = 1 by decide)]
    · unfold f_X7_back
      rw [i1, bs, if_pos rfl]
