/-! ===== 57.seen: saw ===== -/
def SN (n : Nat) (seen : Int32) (sr sf : Nat → Int32) (many : Int32) (sn : Nat → Int32) : Prop :=
  ∃ k : Nat, k ≤ 6 ∧ seen = nI k ∧ many = nI k ∧ ∀ j, j < k → ∃ r c : Nat, r < n ∧ 1 ≤ c ∧ c < 10 ∧ sr j = nI r ∧ sf j = nI c ∧ sn (2 * j) = nI r ∧ sn (2 * j + 1) = nI c
theorem flash_in (x : Int32) : (f_X6_isFlash x = some 0 ∧ f_X7_in x 1 9 = some 0) ∨ ∃ c : Nat, 1 ≤ c ∧ c < 10 ∧ x = nI c ∧ f_X6_isFlash x = some 1 ∧ f_X7_in x 1 9 = some 1 := by
  have e : f_X6_isFlash x = f_X7_in x 1 9 := rfl
  rw [e]
  by_cases c1 : x < 1
  · exact Or.inl ⟨in_lo c1, in_lo c1⟩
  · by_cases c2 : 9 < x
    · exact Or.inl ⟨in_hi c2, in_hi c2⟩
    · refine Or.inr ?_
      rcases ix3 x (n := 10) (by omega) with h | h | ⟨c, hc, rfl⟩
      · exact absurd (show x < 1 by rw [ltI, show (0 : Int32).toInt = 0 by decide] at h; rw [ltI, show (1 : Int32).toInt = 1 by decide]; omega) c1
      · exact absurd (show 9 < x by rw [leI, show (nI 10).toInt = 10 by decide] at h; rw [ltI, show (9 : Int32).toInt = 9 by decide]; omega) c2
      · refine ⟨c, ?_, hc, rfl, in_yes c1 c2, in_yes c1 c2⟩
        rcases Nat.eq_zero_or_pos c with z | z
        · subst z; exact absurd (show nI 0 < 1 by decide) c1
        · exact z
theorem saw_eq {n : Nat} {seen many : Int32} {sr sf sn : Nat → Int32} (hn : n < 7) (hS : SN n seen sr sf many sn) (x1 x2 : Int32) :
    ∃ (U : Int32 × Int32 × (Nat → Int32) × (Nat → Int32)) (W : Int32 × Int32 × (Nat → Int32)), f_X6_saw seen (nI n) sr sf x1 x2 = some U ∧ f_X7_saw (nI n) many sn x1 x2 = some W ∧ U.1 = W.1 ∧ SN n U.2.1 U.2.2.1 U.2.2.2 W.2.1 W.2.2 := by
  obtain ⟨k, h1, h2, h3, h4⟩ := id hS
  unfold f_X6_saw f_X7_saw
  rcases asked n hn x1 with ⟨-, k1, o1, -⟩ | ⟨a, ha, e1, -, k1, o1⟩
  · exact ⟨(-1, seen, sr, sf), (-1, many, sn), by rw [k1, bs, if_pos rfl], by rw [o1, bs, if_pos rfl], rfl, hS⟩
  · rw [k1, bs, if_neg (show ¬ (1 : Int32) = 0 by decide), o1, bs, if_neg (show ¬ (1 : Int32) = 0 by decide)]
    rcases flash_in x2 with ⟨f1, f2⟩ | ⟨c, c1, c2, e2, f1, f2⟩
    · exact ⟨(-1, seen, sr, sf), (-1, many, sn), by rw [f1, bs, if_pos rfl], by rw [f2, bs, if_pos rfl], rfl, hS⟩
    · rw [f1, bs, if_neg (show ¬ (1 : Int32) = 0 by decide), f2, bs, if_neg (show ¬ (1 : Int32) = 0 by decide)]
      by_cases z : k = 6
      · refine ⟨(-3, seen, sr, sf), (-3, many, sn), ?_, ?_, rfl, hS⟩
        · rw [h2, if_neg (show ¬ nI k < (6 : Int32) from by rw [z]; decide)]
        · rw [h3, if_pos (show nI k = 6 from by rw [z]; rfl)]
      · have d2 : 2 * nI k = nI (2 * k) := by rw [show (2 : Int32) = nI 2 from rfl, nM]
        have hS' : SN n (nI (k + 1)) (upd sr k x1) (upd sf k x2) (nI (k + 1)) (upd (upd sn (2 * k) x1) (2 * k + 1) x2) := by
          refine ⟨k + 1, by omega, rfl, rfl, fun j hj => ?_⟩
          by_cases e : j = k
          · subst e
            exact ⟨a, c, ha, c1, c2, by rw [pk_us]; exact e1, by rw [pk_us]; exact e2, by rw [pk_un (by omega), pk_us]; exact e1, by rw [pk_us]; exact e2⟩
          · obtain ⟨r, c', q1, q2, q3, q4, q5, q6, q7⟩ := h4 j (by omega)
            exact ⟨r, c', q1, q2, q3, by rw [pk_un e]; exact q4, by rw [pk_un e]; exact q5, by rw [pk_un (by omega), pk_un (by omega)]; exact q6, by rw [pk_un (by omega), pk_un (by omega)]; exact q7⟩
        refine ⟨(nI (k + 1), nI (k + 1), upd sr k x1, upd sf k x2), (nI (k + 1), nI (k + 1), upd (upd sn (2 * k) x1) (2 * k + 1) x2), ?_, ?_, rfl, hS'⟩
        · rw [h2, if_pos (show nI k < (6 : Int32) from nI_lt (b := 6) (by omega) (by omega)), put_in (by omega) (by omega), bs, put_in (by omega) (by omega), bs, nI_1]
        · rw [h3, if_neg (show ¬ nI k = 6 from by rw [show (6 : Int32) = nI 6 from rfl, nEq (by omega) (by omega)]; exact z), d2, nI_1, nI_1, if_neg (nG (by omega) (by omega)), if_neg (nG (by omega) (by omega)), nC (by omega), nC (by omega)]
