/-! ===== 56.ask: keeper, rock ===== -/
theorem keeper_eq {n sg : Nat} {fl ht : Nat → Nat} {way moons burnt out : Int32} {fk fc ff fh st hates flash : Nat → Int32}
    (hT : Tab n fk fc) (hC : Told6 n sg fl ht) (hff : ∀ a, a < n → ff a = nI (fl a)) (hfh : ∀ a, a < n → fh a = nI (ht a)) (hmf : ∀ a, a < n → flash a = nI (fl a)) (hmh : ∀ a, a < n → hates a = nI (ht a)) (hE : EN n way moons burnt out st 0) (x1 x2 : Int32) :
    ∃ (U W : Int32), f_X6_keeper (nI n) fh way out (nI n) fk ff x1 x2 = some U ∧ f_X7_keeper (nI n) hates st flash x1 x2 = some W ∧ U = W := by
  obtain ⟨hn, hsg, hfl, hht, hsym⟩ := id hC
  obtain ⟨w, m, b, t, g1, g2, g3, g4, g5, g6, g7, g8, g9, g10, g11⟩ := hE
  have hR : Row n w st := fun r hr => by have := g8 r hr; rw [Nat.zero_add] at this; exact this
  have g11 : st 8 = nI t := g11
  have c8 : (Int32.toNatClampNeg 8) = 8 := by decide
  unfold f_X6_keeper f_X7_keeper
  rcases asked n hn x1 with ⟨k1, -, o1, -⟩ | ⟨a, ha, e1, k1, -, o1⟩
  · exact ⟨-1, -1, by rw [k1, bs, if_pos rfl], by rw [o1, bs, if_pos rfl], rfl⟩
  · rw [k1, bs, if_neg (show ¬ (1 : Int32) = 0 by decide), o1, bs, if_neg (show ¬ (1 : Int32) = 0 by decide), e1]
    by_cases c0 : x2 = 0
    · exact ⟨nI (fl a), nI (fl a), by rw [if_pos c0, flashOf_in (by omega), bs, hff a ha], by rw [if_pos c0, if_neg (nG (by omega) (by omega)), nC (by omega), hmf a ha], rfl⟩
    · rw [if_neg c0, if_neg c0]
      by_cases c1 : x2 = 1
      · exact ⟨nI (R n w a), nI (R n w a), by rw [if_pos c1, g4, rockOf_x hT hn g1 ha, bs], by rw [if_pos c1, rockOf_m (N := 100) hR (by omega) (by omega) hn g1 ha, bs], rfl⟩
      · rw [if_neg c1, if_neg c1]
        by_cases c2 : x2 = 2
        · exact ⟨nI (dr (R n w a) a), nI (dr (R n w a) a), by rw [if_pos c2, g4, drift_x hT hn g1 ha, bs], by rw [if_pos c2, drift_m hR hn g1 ha, bs], rfl⟩
        · rw [if_neg c2, if_neg c2]
          by_cases c3 : x2 = 3
          · rw [if_pos c3, if_pos c3, g7, isOut_eq t g3 a (by omega), bs, c8, g11, has_eq t g3 a (by omega), bs]
            by_cases q : (if bt6 t a = true then (1 : Int32) else 0) = 0
            · exact ⟨0, 0, by rw [if_pos q], by rw [if_pos q], rfl⟩
            · exact ⟨1, 1, by rw [if_neg q], by rw [if_neg q], rfl⟩
          · rw [if_neg c3, if_neg c3]
            by_cases c4 : x2 = 4
            · exact ⟨nI (ht a), nI (ht a), by rw [if_pos c4, hatersOf_in (by omega), bs, hfh a ha], by rw [if_pos c4, if_neg (nG (by omega) (by omega)), nC (by omega), hmh a ha], rfl⟩
            · exact ⟨-1, -1, by rw [if_neg c4], by rw [if_neg c4], rfl⟩
theorem rock_eq {n : Nat} {way moons burnt out : Int32} {fk fc st : Nat → Int32} (hT : Tab n fk fc) (hn : n < 7) (hE : EN n way moons burnt out st 0) (x1 : Int32) :
    ∃ (U W : Int32), f_X6_rock (nI n) way fk x1 = some U ∧ f_X7_rock (nI n) st x1 = some W ∧ U = W := by
  obtain ⟨w, m, b, t, g1, g2, g3, g4, g5, g6, g7, g8, g9, g10, g11⟩ := hE
  have hR : Row n w st := fun r hr => by have := g8 r hr; rw [Nat.zero_add] at this; exact this
  unfold f_X6_rock f_X7_rock
  rcases asked n hn x1 with ⟨-, k1, o1, -⟩ | ⟨a, ha, e1, -, k1, o1⟩
  · exact ⟨-1, -1, by rw [k1, bs, if_pos rfl], by rw [o1, bs, if_pos rfl], rfl⟩
  · rw [k1, bs, if_neg (show ¬ (1 : Int32) = 0 by decide), o1, bs, if_neg (show ¬ (1 : Int32) = 0 by decide), e1]
    exact ⟨nI (P n w a), nI (P n w a), by rw [g4, who_t hT hn g1 ha, bs], by rw [if_neg (nG (by omega) (by omega)), nC (by omega), hR a ha], rfl⟩
