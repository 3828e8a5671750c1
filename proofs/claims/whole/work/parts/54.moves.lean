/-! ===== 54.moves: undo, puts, moon ===== -/
theorem hiC : ∀ n : Nat, n < 7 → ¬ n = 0 → (1 <<< ((nI n - 1) &&& 31)) - 1 = nI (CH n - 1) := by decide +kernel
theorem isChange_any {n : Nat} (hn : n < 7) (x : Int32) : (x < 0 ∧ f_X7_isChange (nI n) x = some 0) ∨ (nI (CH n) ≤ x ∧ ¬ x < 0 ∧ f_X7_isChange (nI n) x = some 0) ∨ ∃ c, c < CH n ∧ x = nI c ∧ f_X7_isChange (nI n) x = some 1 := by
  have hCl := CH_le n hn
  rcases ix3 x (n := CH n) (by omega) with h | h | ⟨c, hc, rfl⟩
  · refine Or.inl ⟨h, ?_⟩
    unfold f_X7_isChange
    by_cases z : n = 0
    · subst z
      rw [if_pos (show nI 0 = 0 from rfl), if_neg (fun e => by rw [e] at h; exact absurd h (by decide))]
    · rw [if_neg (show ¬ nI n = 0 from nI_ne0 (by omega) (by omega)), in_lo h, bs]
      rfl
  · have hI : ((CH n : Nat) : Int) ≤ x.toInt := by rw [leI, nT (by omega)] at h; exact h
    have hx : ¬ x < 0 := by rw [ltI, show (0 : Int32).toInt = 0 by decide]; omega
    refine Or.inr (Or.inl ⟨h, hx, ?_⟩)
    unfold f_X7_isChange
    by_cases z : n = 0
    · subst z
      rw [if_pos (show nI 0 = 0 from rfl), if_neg (fun e => by rw [e] at h; exact absurd h (by decide))]
    · rw [if_neg (show ¬ nI n = 0 from nI_ne0 (by omega) (by omega)), hiC n hn z, in_hi (by rw [ltI, nT (by omega)]; omega), bs]
      rfl
  · refine Or.inr (Or.inr ⟨c, hc, rfl, ?_⟩)
    rw [isChange_m n hn c (by omega), if_pos hc]
theorem undo40 {b : Nat} {st : Nat → Int32} {k : Int32 → (Nat → Int32) → Option (Int32 × (Nat → Int32))} (hb : 9 ≤ b) (hb2 : b + 9 ≤ 100) : ∀ (d f j : Nat) (a : Nat → Int32), 9 = j + d → d < f → (∀ i, j ≤ i → a i = st i) → (∀ q, q < j → a q = st (b + q)) →
    ∃ y a', (∀ i, 9 ≤ i → a' i = st i) ∧ (∀ q, q < 9 → a' q = st (b + q)) ∧ lp_X7_undo_L40 (nI b) k f (nI j) a = k y a' := by
  intro d
  induction d with
  | zero =>
    intro f j a hj hf h1 h2
    obtain ⟨f, rfl⟩ := pred1 hf
    unfold lp_X7_undo_L40
    refine ⟨nI j, a, fun i hi => h1 i (by omega), fun q hq => h2 q (by omega), ?_⟩
    rw [if_pos (show (9 : Int32) ≤ nI j from nI_le (a := 9) (by omega) (by omega))]
  | succ d ih =>
    intro f j a hj hf h1 h2
    obtain ⟨f, rfl⟩ := pred1 (Nat.lt_of_le_of_lt (Nat.zero_le _) hf)
    unfold lp_X7_undo_L40
    rw [if_neg (show ¬ (9 : Int32) ≤ nI j from nI_ge (b := 9) (by omega) (by omega)), nA, if_neg (nG (by omega) (by omega)), if_neg (nG (by omega) (by omega)), nC (by omega), nC (by omega), nI_1]
    refine ih f (j + 1) _ (by omega) (by omega) (fun i hi => ?_) (fun q hq => ?_)
    · rw [pk_un (by omega)]; exact h1 i (by omega)
    · by_cases e : q = j
      · subst e; rw [pk_us]; exact h1 (b + q) (by omega)
      · rw [pk_un (by omega)]; exact h2 q (by omega)
theorem undo_eq {n : Nat} {way moons burnt out known : Int32} {past st : Nat → Int32} (hn : n < 7) (hE : EN n way moons burnt out st 0) (hH : HS n known past st 0) :
    ∃ (U : Int32 × Int32 × Int32 × Int32 × Int32 × Int32) (W : Int32 × (Nat → Int32)), f_X6_undo way moons burnt out known past = some U ∧ f_X7_undo st = some W ∧ U.1 = W.1 ∧ EN n U.2.1 U.2.2.1 U.2.2.2.1 U.2.2.2.2.1 W.2 0 ∧ HS n U.2.2.2.2.2 past W.2 0 := by
  obtain ⟨hk, h1, h2, h3, h4⟩ := id hH
  have h3 : st 9 = nI hk := h3
  have c9 : (Int32.toNatClampNeg 9) = 9 := by decide
  rcases Nat.eq_zero_or_pos hk with z | z
  · subst z
    refine ⟨(-2, way, moons, burnt, out, known), (-2, st), ?_, ?_, rfl, hE, hH⟩
    · unfold f_X6_undo f_X0_recall
      rw [h2, if_neg (show ¬ 0 < nI 0 by decide), bs, if_pos rfl]
    · unfold f_X7_undo
      rw [c9, h3, if_pos (show nI 0 = 0 from rfl)]
  · obtain ⟨h, rfl⟩ := pred1 z
    have e10 : ∀ x : Nat, (10 : Int32) + 9 * nI x = nI (10 + 9 * x) := fun x => by rw [show (10 : Int32) = nI 10 from rfl, show (9 : Int32) = nI 9 from rfl, nM, nA]
    obtain ⟨y, a', b1, b2, b3⟩ := undo40 (b := 10 + 9 * h) (st := upd st 9 (nI h)) (k := fun y5 y6 => some ((y6 9), y6)) (by omega) (by omega) 9 FU 0 (upd st 9 (nI h)) (by omega) (by show _ < 4096; omega) (fun i _ => rfl) (fun q hq => by omega)
    have h9 : a' 9 = nI h := by rw [b1 9 (by omega), pk_us]
    refine ⟨(nI h, past (4 * h), past (4 * h + 1), past (4 * h + 2), past (4 * h + 3), nI h), (nI h, a'), ?_, ?_, rfl, ?_, ?_⟩
    · unfold f_X6_undo f_X0_recall
      rw [h2, if_pos (show (0 : Int32) < nI (h + 1) from nI_lt (a := 0) (by omega) (by omega)), nI_pred, show nI h * 4 = nI (4 * h) from by rw [show (4 : Int32) = nI 4 from rfl, nM, Nat.mul_comm], item_in (by omega) (by omega), bs, show nI (4 * h) + 1 = nI (4 * h + 1) from nI_add _ 1, item_in (by omega) (by omega), bs, show nI (4 * h) + 2 = nI (4 * h + 2) from nI_add _ 2, item_in (by omega) (by omega), bs, show nI (4 * h) + 3 = nI (4 * h + 3) from nI_add _ 3, item_in (by omega) (by omega), bs, bs]
      rfl
    · unfold f_X7_undo
      rw [c9, h3, if_neg (show ¬ nI (h + 1) = 0 from nI_ne0 (by omega) (by omega)), nI_pred, pk_us, e10]
      refine b3.trans ?_
      rw [h9]
    · exact en_to hn (h4 h (by omega)) (fun k hk => by rw [Nat.zero_add, Nat.zero_add]; show a' k = _; rw [b2 k hk, pk_un (by omega)])
    · refine ⟨h, by omega, rfl, by rw [Nat.zero_add]; exact h9, fun j hj => en_to hn (h4 j (by omega)) (fun k hk => ?_)⟩
      show a' (0 + (10 + 9 * j) + k) = _
      rw [b1 _ (by omega), pk_un (by omega)]
theorem puts_eq {n : Nat} {way moons burnt out known : Int32} {past st : Nat → Int32} (hn : n < 7) (hE : EN n way moons burnt out st 0) (hH : HS n known past st 0) (x1 x2 : Int32) :
    ∃ (U : Int32 × Int32 × Int32 × (Nat → Int32)) (W : Int32 × (Nat → Int32)), f_X6_puts (nI n) way moons burnt out known past x1 x2 = some U ∧ f_X7_puts (nI n) st x1 x2 = some W ∧ U.1 = W.1 ∧ EN n way moons burnt U.2.1 W.2 0 ∧ HS n U.2.2.1 U.2.2.2 W.2 0 := by
  have c8 : (Int32.toNatClampNeg 8) = 8 := by decide
  have same : f_X6_puts (nI n) way moons burnt out known past x1 x2 = some (-1, out, known, past) → f_X7_puts (nI n) st x1 x2 = some (-1, st) → ∃ (U : Int32 × Int32 × Int32 × (Nat → Int32)) (W : Int32 × (Nat → Int32)), f_X6_puts (nI n) way moons burnt out known past x1 x2 = some U ∧ f_X7_puts (nI n) st x1 x2 = some W ∧ U.1 = W.1 ∧ EN n way moons burnt U.2.1 W.2 0 ∧ HS n U.2.2.1 U.2.2.2 W.2 0 := fun a b => ⟨_, _, a, b, rfl, hE, hH⟩
  rcases asked n hn x1 with ⟨k1, -, o1, -⟩ | ⟨a, ha, e1, k1, -, o1⟩
  · exact same (by unfold f_X6_puts; rw [k1, bs, if_pos rfl]) (by unfold f_X7_puts; rw [o1, bs, if_pos rfl])
  · rcases zo x2 with ⟨z1, z2, z3⟩ | ⟨z1, z2, -, -⟩
    · obtain ⟨w, m, b, t, g1, g2, g3, g4, g5, g6, g7, g8, g9, g10, g11⟩ := id hE
      have g11 : st 8 = nI t := g11
      obtain ⟨known', past', st', r1, r2, r3, r4⟩ := rem_HS hn hE hH
      have h8' : st' 8 = nI t := by rw [r3 8 (by omega)]; exact g11
      have hfl := flip_lt t g3 a (by omega)
      have hE' : EN n way moons burnt (nI (t ^^^ 2 ^ a)) (upd st' 8 (nI (t ^^^ 2 ^ a))) 0 := by
        refine ⟨w, m, b, t ^^^ 2 ^ a, g1, g2, hfl, g4, g5, g6, rfl, fun r hr => ?_, ?_, ?_, ?_⟩
        · rw [pk_un (by omega), Nat.zero_add, r3 r (by omega)]; have := g8 r hr; rw [Nat.zero_add] at this; exact this
        · rw [pk_un (by omega), Nat.zero_add, r3 6 (by omega)]; exact g9
        · rw [pk_un (by omega), Nat.zero_add, r3 7 (by omega)]; exact g10
        · rw [Nat.zero_add, pk_us]
      have hH' : HS n known' past' (upd st' 8 (nI (t ^^^ 2 ^ a))) 0 := by
        obtain ⟨hk, q1, q2, q3, q4⟩ := r4
        refine ⟨hk, q1, q2, by rw [pk_un (by omega)]; exact q3, fun j hj => en_to hn (q4 j hj) (fun k hk => by rw [pk_un (by omega)])⟩
      have cx : ∀ (v : Int32), f_X6_isOut out x1 = some v → f_X7_has (st 8) x1 = some v := fun v h => by
        rw [g7, e1, isOut_eq t g3 a (by omega)] at h
        rw [g11, e1, has_eq t g3 a (by omega)]
        exact h
      have ox : f_X6_isOut out x1 = some (if bt6 t a then 1 else 0) := by rw [g7, e1, isOut_eq t g3 a (by omega)]
      have om := cx _ ox
      have fx : out ^^^ (1 <<< (x1 &&& 31)) = nI (t ^^^ 2 ^ a) := by rw [g7, e1, flip_eq t g3 a (by omega)]
      have fm : st' 8 ^^^ (1 <<< (x1 &&& 31)) = nI (t ^^^ 2 ^ a) := by rw [h8', e1, flip_eq t g3 a (by omega)]
      have no : f_X6_puts (nI n) way moons burnt out known past x1 x2 = some (-2, out, known, past) → f_X7_puts (nI n) st x1 x2 = some (-2, st) → ∃ (U : Int32 × Int32 × Int32 × (Nat → Int32)) (W : Int32 × (Nat → Int32)), f_X6_puts (nI n) way moons burnt out known past x1 x2 = some U ∧ f_X7_puts (nI n) st x1 x2 = some W ∧ U.1 = W.1 ∧ EN n way moons burnt U.2.1 W.2 0 ∧ HS n U.2.2.1 U.2.2.2 W.2 0 := fun a b => ⟨_, _, a, b, rfl, hE, hH⟩
      have yes : f_X6_puts (nI n) way moons burnt out known past x1 x2 = some (nI (pc6 (t ^^^ 2 ^ a)), nI (t ^^^ 2 ^ a), known', past') → f_X7_puts (nI n) st x1 x2 = some (nI (pc6 (t ^^^ 2 ^ a)), upd st' 8 (nI (t ^^^ 2 ^ a))) → ∃ (U : Int32 × Int32 × Int32 × (Nat → Int32)) (W : Int32 × (Nat → Int32)), f_X6_puts (nI n) way moons burnt out known past x1 x2 = some U ∧ f_X7_puts (nI n) st x1 x2 = some W ∧ U.1 = W.1 ∧ EN n way moons burnt U.2.1 W.2 0 ∧ HS n U.2.2.1 U.2.2.2 W.2 0 := fun a b => ⟨_, _, a, b, rfl, hE', hH'⟩
      have px : ∀ v, f_X6_puts (nI n) way moons burnt out known past x1 x2 = v ↔ (if x2 = 1 then (if (if bt6 t a then (1 : Int32) else 0) = 1 then some (-2, out, known, past) else some (nI (pc6 (t ^^^ 2 ^ a)), nI (t ^^^ 2 ^ a), known', past')) else (if (if bt6 t a then (1 : Int32) else 0) = 0 then some (-2, out, known, past) else some (nI (pc6 (t ^^^ 2 ^ a)), nI (t ^^^ 2 ^ a), known', past'))) = v := fun v => by
        unfold f_X6_puts
        rw [k1, bs, if_neg (show ¬ (1 : Int32) = 0 by decide), z1, bs, if_neg (show ¬ (1 : Int32) = 0 by decide), ox, bs, r1, bs, fx, bitCount_eq _ hfl, bs]
      have pm : ∀ v, f_X7_puts (nI n) st x1 x2 = v ↔ (if x2 = 1 then (if (if bt6 t a then (1 : Int32) else 0) = 1 then some (-2, st) else some (nI (pc6 (t ^^^ 2 ^ a)), upd st' 8 (nI (t ^^^ 2 ^ a)))) else (if (if bt6 t a then (1 : Int32) else 0) = 0 then some (-2, st) else some (nI (pc6 (t ^^^ 2 ^ a)), upd st' 8 (nI (t ^^^ 2 ^ a))))) = v := fun v => by
        unfold f_X7_puts
        rw [o1, bs, if_neg (show ¬ (1 : Int32) = 0 by decide), z2, bs, if_neg (show ¬ (1 : Int32) = 0 by decide), c8, om, bs, r2, bs, fm, pk_us, bits_eq _ hfl, bs]
      by_cases c1 : x2 = 1
      · by_cases c2 : (if bt6 t a then (1 : Int32) else 0) = 1
        · exact no ((px _).mpr (by rw [if_pos c1, if_pos c2])) ((pm _).mpr (by rw [if_pos c1, if_pos c2]))
        · exact yes ((px _).mpr (by rw [if_pos c1, if_neg c2])) ((pm _).mpr (by rw [if_pos c1, if_neg c2]))
      · by_cases c2 : (if bt6 t a then (1 : Int32) else 0) = 0
        · exact no ((px _).mpr (by rw [if_neg c1, if_pos c2])) ((pm _).mpr (by rw [if_neg c1, if_pos c2]))
        · exact yes ((px _).mpr (by rw [if_neg c1, if_neg c2])) ((pm _).mpr (by rw [if_neg c1, if_neg c2]))
    · exact same (by unfold f_X6_puts; rw [k1, bs, if_neg (show ¬ (1 : Int32) = 0 by decide), z1, bs, if_pos rfl]) (by unfold f_X7_puts; rw [o1, bs, if_neg (show ¬ (1 : Int32) = 0 by decide), z2, bs, if_pos rfl])
