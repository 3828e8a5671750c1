/-! ===== 55.moon: a moon ===== -/
def lit (t : Nat) (fl : Nat → Nat) (a : Nat) : Nat := if bt6 t a = true then 0 else fl a
theorem lit_x {n t : Nat} {fl : Nat → Nat} {ff : Nat → Int32} {k : Int32 → Int32 → Option Int32} (hn : n < 7) (ht : t < 64) (hff : ∀ a, a < n → ff a = nI (fl a)) :
    ∀ (d f i : Nat), n = i + d → d < f → ∃ y, lp_X6_flashesNotOut_L4 (nI n) (nI t) ff k f (nI (sm (lit t fl) i)) (nI i) = k (nI (sm (lit t fl) n)) y := by
  intro d
  induction d with
  | zero =>
    intro f i hi hf
    obtain ⟨f, rfl⟩ := pred1 hf
    unfold lp_X6_flashesNotOut_L4
    exact ⟨nI i, by rw [if_pos (nI_le (by omega) (by omega)), show i = n by omega]⟩
  | succ d ih =>
    intro f i hi hf
    obtain ⟨f, rfl⟩ := pred1 (Nat.lt_of_le_of_lt (Nat.zero_le _) hf)
    obtain ⟨y, h⟩ := ih f (i + 1) (by omega) (by omega)
    refine ⟨y, ?_⟩
    unfold lp_X6_flashesNotOut_L4
    rw [if_neg (nI_ge (by omega) (by omega)), isOut_eq t ht i (by omega), bs, nI_1]
    cases hb : bt6 t i
    · have e : sm (lit t fl) (i + 1) = sm (lit t fl) i + fl i := by simp only [sm, lit, hb]; rfl
      rw [e] at h
      rw [if_neg (show ¬ (false = true) by decide), if_pos rfl, flashOf_in (by omega), bs, hff i (by omega), nA]
      exact h
    · have e : sm (lit t fl) (i + 1) = sm (lit t fl) i := by simp only [sm, lit, hb]; rfl
      rw [e] at h
      rw [if_pos (show true = true from rfl), if_neg (show ¬ (1 : Int32) = 0 by decide)]
      exact h
theorem lit_m {n t b : Nat} {fl : Nat → Nat} {flash st : Nat → Int32} {k : Int32 → (Nat → Int32) → Option (Int32 × (Nat → Int32))} (hn : n < 7) (ht : t < 64) (hff : ∀ a, a < n → flash a = nI (fl a)) (h8 : st 8 = nI t) :
    ∀ (d f i : Nat) (a : Nat → Int32), n = i + d → d < f → (∀ q, q ≠ 7 → a q = st q) → a 7 = nI (b + sm (lit t fl) i) → ∃ y a', (∀ q, q ≠ 7 → a' q = st q) ∧ a' 7 = nI (b + sm (lit t fl) n) ∧ lp_X7_moon_L63 (nI n) flash k f (nI i) a = k y a' := by
  have c7 : (Int32.toNatClampNeg 7) = 7 := by decide
  have c8 : (Int32.toNatClampNeg 8) = 8 := by decide
  intro d
  induction d with
  | zero =>
    intro f i a hi hf h1 h2
    obtain ⟨f, rfl⟩ := pred1 hf
    unfold lp_X7_moon_L63
    exact ⟨nI i, a, h1, by rw [h2, show i = n by omega], by rw [if_pos (nI_le (by omega) (by omega))]⟩
  | succ d ih =>
    intro f i a hi hf h1 h2
    obtain ⟨f, rfl⟩ := pred1 (Nat.lt_of_le_of_lt (Nat.zero_le _) hf)
    unfold lp_X7_moon_L63
    rw [if_neg (nI_ge (by omega) (by omega)), c8, h1 8 (by omega), h8, has_eq t ht i (by omega), bs, c7, h2, nI_1]
    cases hb : bt6 t i
    · have e : b + sm (lit t fl) (i + 1) = b + sm (lit t fl) i + fl i := by simp only [sm, lit, hb]; rw [if_neg (show ¬ (false = true) by decide), Nat.add_assoc]
      rw [if_neg (show ¬ (false = true) by decide), if_pos rfl, if_neg (nG (by omega) (by omega)), nC (by omega), hff i (by omega), nA]
      exact ih f (i + 1) _ (by omega) (by omega) (fun q hq => by rw [pk_un hq]; exact h1 q hq) (by rw [pk_us, e])
    · have e : b + sm (lit t fl) (i + 1) = b + sm (lit t fl) i := by simp only [sm, lit, hb]; rfl
      rw [if_pos (show true = true from rfl), if_neg (show ¬ (1 : Int32) = 0 by decide), nA0]
      exact ih f (i + 1) _ (by omega) (by omega) (fun q hq => by rw [pk_un hq]; exact h1 q hq) (by rw [pk_us, e])
theorem moon_eq {n sg : Nat} {fl ht : Nat → Nat} {way moons burnt out known x1 : Int32} {fk fc ff fh past st hates flash : Nat → Int32}
    (hT : Tab n fk fc) (hC : Told6 n sg fl ht) (hff : ∀ a, a < n → ff a = nI (fl a)) (hfh : ∀ a, a < n → fh a = nI (ht a)) (hmf : ∀ a, a < n → flash a = nI (fl a)) (hmh : ∀ a, a < n → hates a = nI (ht a)) (hE : EN n way moons burnt out st 0) (hH : HS n known past st 0) :
    ∃ (U : Int32 × Int32 × Int32 × Int32 × Int32 × (Nat → Int32)) (W : Int32 × (Nat → Int32)), f_X6_moon (nI n) way moons burnt out known fk fh past fc ff x1 = some U ∧ f_X7_moon (nI n) st hates flash x1 = some W ∧ U.1 = W.1 ∧ EN n U.2.1 U.2.2.1 U.2.2.2.1 out W.2 0 ∧ HS n U.2.2.2.2.1 U.2.2.2.2.2 W.2 0 := by
  obtain ⟨hn, hsg, hfl, hht, hsym⟩ := id hC
  have hCl := CH_le n hn
  have c6 : (Int32.toNatClampNeg 6) = 6 := by decide
  have stay : ∀ v : Int32, f_X6_moon (nI n) way moons burnt out known fk fh past fc ff x1 = some (v, way, moons, burnt, known, past) → f_X7_moon (nI n) st hates flash x1 = some (v, st) → ∃ (U : Int32 × Int32 × Int32 × Int32 × Int32 × (Nat → Int32)) (W : Int32 × (Nat → Int32)), f_X6_moon (nI n) way moons burnt out known fk fh past fc ff x1 = some U ∧ f_X7_moon (nI n) st hates flash x1 = some W ∧ U.1 = W.1 ∧ EN n U.2.1 U.2.2.1 U.2.2.2.1 out W.2 0 ∧ HS n U.2.2.2.2.1 U.2.2.2.2.2 W.2 0 := fun v a b => ⟨_, _, a, b, rfl, hE, hH⟩
  rcases isChange_any hn x1 with ⟨z, i1⟩ | ⟨z, z2, i1⟩ | ⟨c, hc, e1, i1⟩
  · exact stay (-1) (by unfold f_X6_moon; rw [if_pos z]) (by unfold f_X7_moon; rw [i1, bs, if_pos rfl])
  · exact stay (-1) (by unfold f_X6_moon; rw [if_neg z2, changes_x n hn, bs, if_neg (fun y => by rw [ltI] at y; rw [leI] at z; omega)]) (by unfold f_X7_moon; rw [i1, bs, if_pos rfl])
  · obtain ⟨w, m, b, t, g1, g2, g3, g4, g5, g6, g7, g8, g9, g10, g11⟩ := id hE
    have hR : Row n w st := fun r hr => by have := g8 r hr; rw [Nat.zero_add] at this; exact this
    have g9 : st 6 = nI m := g9
    have g10 : st 7 = nI b := g10
    have g11 : st 8 = nI t := g11
    obtain ⟨known', past', st', r1, r2, r3, r4⟩ := rem_HS hn hE hH
    have hR' : Row n w st' := fun r hr => by rw [r3 r (by omega)]; exact hR r hr
    obtain ⟨st2, s1, s2, s3⟩ := chg_m (N := 100) hR' (by omega) (by omega) hn g1 (show c < 32 by omega)
    obtain ⟨y, lx⟩ := lit_x (k := fun y5 _ => some y5) hn g3 hff n FU 0 (by omega) (by show _ < 4096; omega)
    have lx : f_X6_flashesNotOut (nI n) (nI t) ff = some (nI (sm (lit t fl) n)) := lx
    have q6 : st2 6 = nI m := by rw [s2 6 (by omega), r3 6 (by omega)]; exact g9
    obtain ⟨y2, st3, l1, l2, l3⟩ := lit_m (b := b) (fl := fl) (st := upd st2 6 (nI (m + 1))) (k := fun _ y13 => (f_X7_bits x1).bind fun u14 => some ((2 * u14), y13)) hn g3 hmf (by rw [pk_un (by omega), s2 8 (by omega), r3 8 (by omega)]; exact g11) n FU 0 (upd st2 6 (nI (m + 1))) (by omega) (by show _ < 4096; omega) (fun q _ => rfl) (by rw [pk_un (by omega), s2 7 (by omega), r3 7 (by omega), g10]; rfl)
    have hal : alB (wl (okr n w ht) (n - 1)) c = AL n (okr n w ht) c := alB_AL _ hn hc
    by_cases hm : m = 99
    · refine stay (-2) ?_ ?_
      · unfold f_X6_moon
        rw [e1, if_neg (nP (by omega)), changes_x n hn, bs, if_pos (nI_lt (by omega) (by omega)), g5, if_pos (show (99 : Int32) ≤ nI m from nI_le (a := 99) (by omega) (by omega))]
      · unfold f_X7_moon
        rw [i1, bs, if_neg (show ¬ (1 : Int32) = 0 by decide), e1, may_m (N := 100) (ht := ht) hR (by omega) (by omega) hn g1 (by omega) (fun a ha => ⟨hmh a ha, hht a ha⟩), bs, c6, g9, hm]
        by_cases q : AL n (okr n w ht) c = true
        · rw [if_pos q, if_neg (show ¬ (1 : Int32) = 0 by decide), if_pos (show nI 99 = 99 from rfl)]
        · rw [if_neg q, if_pos rfl]
    · by_cases q : AL n (okr n w ht) c = true
      · refine ⟨(2 * nI (pc6 c), nI (AF n w c), nI (m + 1), nI (b + sm (lit t fl) n), known', past'), (2 * nI (pc6 c), st3), ?_, ?_, rfl, ?_, ?_⟩
        · unfold f_X6_moon
          rw [e1, if_neg (nP (by omega)), changes_x n hn, bs, if_pos (nI_lt (by omega) (by omega)), r1, bs, g4, g5, g6, g7, if_neg (show ¬ (99 : Int32) ≤ nI m from nI_ge (b := 99) (by omega) (by omega)), willing_x hT hn g1 (fun a ha => ⟨hfh a ha, hht a ha⟩), bs, allows_x _ (wl_lt _ _ (by omega)) _ (by omega), bs, hal, if_pos q, if_neg (show ¬ (1 : Int32) = 0 by decide), after_x hT hn g1 hc, bs, lx, bs, bitCount_eq _ (by omega), bs, nI_1, nA]
        · unfold f_X7_moon
          rw [i1, bs, if_neg (show ¬ (1 : Int32) = 0 by decide), e1, may_m (N := 100) (ht := ht) hR (by omega) (by omega) hn g1 (by omega) (fun a ha => ⟨hmh a ha, hht a ha⟩), bs, if_pos q, if_neg (show ¬ (1 : Int32) = 0 by decide), c6, g9, if_neg (show ¬ nI m = 99 from by rw [show (99 : Int32) = nI 99 from rfl, nEq (by omega) (by omega)]; exact hm), r2, bs, s3, bs, q6, nI_1]
          rw [e1, bits_eq _ (by omega)] at l3
          rw [bits_eq _ (by omega)]
          exact l3
        · refine ⟨AF n w c, m + 1, b + sm (lit t fl) n, t, AF_lt hn g1, by omega, g3, rfl, rfl, rfl, g7, fun r hr => ?_, ?_, ?_, ?_⟩
          · show st3 (0 + r) = _
            rw [Nat.zero_add, l1 r (by omega), pk_un (by omega)]; exact s1 r hr
          · show st3 6 = _
            rw [l1 6 (by omega), pk_us]
          · exact l2
          · show st3 8 = _
            rw [l1 8 (by omega), pk_un (by omega), s2 8 (by omega), r3 8 (by omega)]; exact g11
        · obtain ⟨hk, q1, q2, q3, q4⟩ := r4
          refine ⟨hk, q1, q2, ?_, fun j hj => en_to hn (q4 j hj) (fun k hk => ?_)⟩
          · show st3 9 = _
            rw [l1 9 (by omega), pk_un (by omega), s2 9 (by omega)]; exact q3
          · show st3 (0 + (10 + 9 * j) + k) = _
            rw [l1 _ (by omega), pk_un (by omega), s2 _ (by omega)]
      · refine stay (-2) ?_ ?_
        · unfold f_X6_moon
          rw [e1, if_neg (nP (by omega)), changes_x n hn, bs, if_pos (nI_lt (by omega) (by omega)), g5, if_neg (show ¬ (99 : Int32) ≤ nI m from nI_ge (b := 99) (by omega) (by omega)), g4, willing_x hT hn g1 (fun a ha => ⟨hfh a ha, hht a ha⟩), bs, allows_x _ (wl_lt _ _ (by omega)) _ (by omega), bs, hal, if_neg q, if_pos rfl]
        · unfold f_X7_moon
          rw [i1, bs, if_neg (show ¬ (1 : Int32) = 0 by decide), e1, may_m (N := 100) (ht := ht) hR (by omega) (by omega) hn g1 (by omega) (fun a ha => ⟨hmh a ha, hht a ha⟩), bs, if_neg q, if_pos rfl]
