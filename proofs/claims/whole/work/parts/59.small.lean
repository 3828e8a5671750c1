/-! ===== 59.small: forget, count, mark, ship, odds ===== -/
theorem in_n {hi : Nat} (hh : hi < 1000) (x : Int32) : (x < 0 ∧ f_X7_in x 0 (nI hi) = some 0) ∨ (¬ x < 0 ∧ nI hi < x ∧ f_X7_in x 0 (nI hi) = some 0) ∨ ∃ c : Nat, c ≤ hi ∧ x = nI c ∧ f_X7_in x 0 (nI hi) = some 1 := by
  rcases ix3 x (n := hi + 1) (by omega) with h | h | ⟨c, hc, rfl⟩
  · exact Or.inl ⟨h, in_lo h⟩
  · rw [leI, nT (by omega)] at h
    have h2 : nI hi < x := by rw [ltI, nT (by omega)]; omega
    exact Or.inr (Or.inl ⟨by rw [ltI, show (0 : Int32).toInt = 0 by decide]; omega, h2, in_hi h2⟩)
  · exact Or.inr (Or.inr ⟨c, by omega, rfl, in_yes (nP (by omega)) (fun q => by rw [nLt (by omega) (by omega)] at q; omega)⟩)
theorem forget_eq {n : Nat} {seen many : Int32} {sr sf sn : Nat → Int32} (hS : SN n seen sr sf many sn) :
    f_X6_forget seen = some (seen, 0) ∧ f_X7_forget many = some (seen, 0) ∧ SN n 0 sr sf 0 sn := by
  obtain ⟨k, h1, h2, h3, h4⟩ := hS
  exact ⟨rfl, by unfold f_X7_forget; rw [h2, h3], 0, by omega, rfl, rfl, fun j hj => by omega⟩
theorem mark_eq {n sg : Nat} {fl ht : Nat → Nat} {way moons burnt out : Int32} {tr : Int64} {fk fc ff st flash : Nat → Int32}
    (hT : Tab n fk fc) (hC : Told6 n sg fl ht) (hff : ∀ a, a < n → ff a = nI (fl a)) (hmf : ∀ a, a < n → flash a = nI (fl a)) (hE : EN n way moons burnt out st 0) (x1 x2 : Int32) :
    ∃ a tr', f_X6_mark tr (nI n) ff way moons (nI n) fk x1 x2 = some (a, tr') ∧ f_X7_mark (nI n) tr flash st x1 x2 = some (a, tr') := by
  obtain ⟨hn, hsg, hfl, hht, hsym⟩ := id hC
  obtain ⟨w, m, b, t, g1, g2, g3, g4, g5, g6, g7, g8, g9, g10, g11⟩ := hE
  have hR : Row n w st := fun r hr => by have := g8 r hr; rw [Nat.zero_add] at this; exact this
  have g9 : st 6 = moons := by rw [g5]; exact g9
  have c6 : (Int32.toNatClampNeg 6) = 6 := by decide
  rcases asked n hn x2 with ⟨k1, -, o1, -⟩ | ⟨a, ha, e1, k1, -, o1⟩
  · refine ⟨-1000000, tr, by unfold f_X6_mark; rw [k1, bs, if_pos rfl], ?_⟩
    unfold f_X7_mark
    rcases in_n (hi := 5) (by omega) x1 with ⟨-, h⟩ | ⟨-, -, h⟩ | ⟨-, -, -, h⟩
    · have h : f_X7_in x1 0 5 = some 0 := h
      rw [h, bs, if_pos rfl]
    · have h : f_X7_in x1 0 5 = some 0 := h
      rw [h, bs, if_pos rfl]
    · have h : f_X7_in x1 0 5 = some 1 := h
      rw [h, bs, if_neg (show ¬ (1 : Int32) = 0 by decide), o1, bs, if_pos rfl]
  · have dx := drift_x hT hn g1 ha
    have dm := drift_m hR hn g1 ha
    have rx := rockOf_x hT hn g1 ha
    have rm := rockOf_m (N := 100) hR (by omega) (by omega) hn g1 ha
    have fx : f_X4_flashOf ff (nI a) = some (nI (fl a)) := by rw [flashOf_in (by omega), hff a ha]
    have kx : ∀ t0 : Int64, f_X6_markOfKeeper t0 ff (nI a) = some (nI (fl a), t0 + 1) := fun t0 => by unfold f_X6_markOfKeeper; rw [fx, bs]
    have sx : ∀ t0 : Int64, f_X6_markOfSleeper t0 ff (nI n) (nI w) fk (nI a) = some (nI (fl a) + nI (dr (R n w a) a), t0 + 10 + 1) := fun t0 => by unfold f_X6_markOfSleeper; rw [kx, bs, dx, bs]
    have px : ∀ t0 : Int64, f_X6_markOfPilot t0 ff (nI n) (nI w) fk (nI a) = some (nI (fl a) - nI (R n w a), t0 + 100 + 1) := fun t0 => by unfold f_X6_markOfPilot; rw [kx, bs, rx, bs]
    have mm : ∀ v, f_X7_in x1 0 5 = some 1 → (if x1 = 1 then
        some ((nI (fl a) + nI (dr (R n w a) a)), (tr + 11))
      else
        if x1 = 2 then
          some ((nI (fl a) - nI (R n w a)), (tr + 101))
        else
          if x1 = 3 then
            some ((2 * (nI (fl a) + nI (dr (R n w a) a))), (tr + 1011))
          else
            if x1 = 4 then
              some (((nI (fl a) - nI (R n w a)) + nI a), (tr + 10101))
            else
              if x1 = 5 then
                some ((nI (fl a) + moons), (tr + 100001))
              else
                some (nI (fl a), (tr + 1))) = v → f_X7_mark (nI n) tr flash st x1 x2 = v := fun v hi hv => by
      unfold f_X7_mark
      rw [hi, bs, if_neg (show ¬ (1 : Int32) = 0 by decide), o1, bs, if_neg (show ¬ (1 : Int32) = 0 by decide), e1, if_neg (nG (by omega) (by omega)), dm, bs, rm, bs, nC (by omega), hmf a ha, c6, g9]
      exact hv
    have e11 : tr + 10 + 1 = tr + 11 := by rw [Int64.add_assoc]; rfl
    have e101 : tr + 100 + 1 = tr + 101 := by rw [Int64.add_assoc]; rfl
    have e1011 : tr + 1000 + 10 + 1 = tr + 1011 := by rw [Int64.add_assoc, Int64.add_assoc]; rfl
    have e10101 : tr + 10000 + 100 + 1 = tr + 10101 := by rw [Int64.add_assoc, Int64.add_assoc]; rfl
    have e100001 : tr + 100000 + 1 = tr + 100001 := by rw [Int64.add_assoc]; rfl
    unfold f_X6_mark
    rw [k1, bs, if_neg (show ¬ (1 : Int32) = 0 by decide), e1, g4]
    rw [e1] at mm
    by_cases c0 : x1 = 0
    · subst c0
      exact ⟨nI (fl a), tr + 1, by rw [if_pos rfl, kx, bs], mm _ (by decide) rfl⟩
    · rw [if_neg c0]
      by_cases c1 : x1 = 1
      · subst c1
        exact ⟨nI (fl a) + nI (dr (R n w a) a), tr + 11, by rw [if_pos rfl, sx, bs, e11], mm _ (by decide) rfl⟩
      · rw [if_neg c1]
        by_cases c2 : x1 = 2
        · subst c2
          exact ⟨nI (fl a) - nI (R n w a), tr + 101, by rw [if_pos rfl, px, bs, e101], mm _ (by decide) rfl⟩
        · rw [if_neg c2]
          by_cases c3 : x1 = 3
          · subst c3
            exact ⟨2 * (nI (fl a) + nI (dr (R n w a) a)), tr + 1011, by unfold f_X6_markOfHorn; rw [if_pos rfl, sx, bs, bs, e1011, Int32.mul_comm], mm _ (by decide) rfl⟩
          · rw [if_neg c3]
            by_cases c4 : x1 = 4
            · subst c4
              exact ⟨(nI (fl a) - nI (R n w a)) + nI a, tr + 10101, by unfold f_X6_markOfCat; rw [if_pos rfl, px, bs, bs, e10101], mm _ (by decide) rfl⟩
            · rw [if_neg c4]
              by_cases c5 : x1 = 5
              · subst c5
                exact ⟨nI (fl a) + moons, tr + 100001, by unfold f_X6_markOfWife; rw [if_pos rfl, kx, bs, bs, e100001], mm _ (by decide) rfl⟩
              · rw [if_neg c5]
                refine ⟨-1000000, tr, rfl, ?_⟩
                unfold f_X7_mark
                rcases in_n (hi := 5) (by omega) x1 with ⟨-, h⟩ | ⟨-, -, h⟩ | ⟨j, hj, ej, -⟩
                · have h : f_X7_in x1 0 5 = some 0 := h
                  rw [h, bs, if_pos rfl]
                · have h : f_X7_in x1 0 5 = some 0 := h
                  rw [h, bs, if_pos rfl]
                · exfalso
                  have : j = 0 ∨ j = 1 ∨ j = 2 ∨ j = 3 ∨ j = 4 ∨ j = 5 := by omega
                  rcases this with z | z | z | z | z | z
                  · subst z; exact c0 ej
                  · subst z; exact c1 ej
                  · subst z; exact c2 ej
                  · subst z; exact c3 ej
                  · subst z; exact c4 ej
                  · subst z; exact c5 ej
-- where a ship is
def shB (n w t : Nat) (fl : Nat → Nat) (r c : Nat) : Bool := fl (P n w r) == c && !(bt6 t (P n w r))
theorem or0 : ∀ m : Nat, m < 64 → nI m ||| 0 = nI m := by decide +kernel
theorem shines_x {n w t r c : Nat} {fl : Nat → Nat} {fk fc ff : Nat → Int32} (hT : Tab n fk fc) (hn : n < 7) (hw : w < fac n) (ht : t < 64) (hff : ∀ a, a < n → ff a = nI (fl a)) (hfl : ∀ a, a < n → fl a < 10) (hr : r < n) (hc : c < 10) :
    f_X6_shines (nI w) (nI t) fk ff (nI r) (nI c) = some (if shB n w t fl r c = true then 1 else 0) := by
  unfold f_X6_shines shB
  have hp := P_lt hn hw hr
  have h1 := hfl _ hp
  rw [who_t hT hn hw hr, bs, flashOf_in (by omega), bs, hff _ hp, ifEq (by omega) (by omega), isOut_eq t ht _ (by omega), bs]
  by_cases z : fl (P n w r) = c
  · rw [if_pos z]
    cases hb : bt6 t (P n w r)
    · rw [if_neg (show ¬ (false = true) by decide), if_pos rfl, if_pos (by simp [z])]
    · rw [if_pos rfl, if_neg (show ¬ (1 : Int32) = 0 by decide), if_neg (by simp)]
  · rw [if_neg z, if_neg (by simp [z])]
theorem ship_x {n w t a b : Nat} {fl : Nat → Nat} {fk fc ff : Nat → Int32} {k : Int32 → Int32 → Option Int32} (hT : Tab n fk fc) (hn : n < 7) (hw : w < fac n) (ht : t < 64) (hff : ∀ a, a < n → ff a = nI (fl a)) (hfl : ∀ a, a < n → fl a < 10) (ha : a < 10) (hb : b < 10) :
    ∀ (d f r : Nat), n - 1 = r + d → d < f → ∃ y, lp_X6_ship_L21 (nI n) (nI w) (nI t) fk ff (nI a) (nI b) k f (nI (wl (fun r => shB n w t fl r a && shB n w t fl (r + 1) b) r)) (nI r) = k (nI (wl (fun r => shB n w t fl r a && shB n w t fl (r + 1) b) (n - 1))) y := by
  intro d
  induction d with
  | zero =>
    intro f r hr hf
    obtain ⟨f, rfl⟩ := pred1 hf
    unfold lp_X6_ship_L21
    refine ⟨nI r, ?_⟩
    rw [nI_1, if_pos (nI_le (by omega) (by omega)), show n - 1 = r by omega]
  | succ d ih =>
    intro f r hr hf
    obtain ⟨f, rfl⟩ := pred1 (Nat.lt_of_le_of_lt (Nat.zero_le _) hf)
    unfold lp_X6_ship_L21
    have hl := wl_lt (fun r => shB n w t fl r a && shB n w t fl (r + 1) b) r (by omega)
    obtain ⟨y, h⟩ := ih f (r + 1) (by omega) (by omega)
    refine ⟨y, ?_⟩
    rw [wl_s] at h
    rw [nI_1, if_neg (nI_ge (by omega) (by omega)), shines_x hT hn hw ht hff hfl (by omega) ha, bs, shines_x hT hn hw ht hff hfl (by omega) hb, bs, orbit_eq _ hl r (by omega)]
    cases h1 : shB n w t fl r a
    · rw [if_neg (show ¬ (false = true) by decide), if_pos rfl]
      rw [if_neg (by rw [h1, Bool.false_and]; decide)] at h
      exact h
    · rw [if_pos rfl, if_neg (show ¬ (1 : Int32) = 0 by decide)]
      cases h2 : shB n w t fl (r + 1) b
      · rw [if_neg (show ¬ (false = true) by decide), if_pos rfl]
        rw [if_neg (by rw [h1, h2]; decide)] at h
        exact h
      · rw [if_pos rfl, if_neg (show ¬ (1 : Int32) = 0 by decide)]
        rw [if_pos (by rw [h1, h2]; decide)] at h
        exact h
theorem ship_m {n w t a b : Nat} {fl : Nat → Nat} {st flash : Nat → Int32} {k : Int32 → Int32 → Option Int32} (hR : Row n w st) (h8 : st 8 = nI t) (hn : n < 7) (hw : w < fac n) (ht : t < 64) (hff : ∀ a, a < n → flash a = nI (fl a)) (hfl : ∀ a, a < n → fl a < 10) (ha : a < 10) (hb : b < 10) :
    ∀ (d f r : Nat), n - 1 = r + d → d < f → ∃ y, lp_X7_ship_L27 (nI n) flash st (nI a) (nI b) k f (nI (wl (fun r => shB n w t fl r a && shB n w t fl (r + 1) b) r)) (nI r) = k (nI (wl (fun r => shB n w t fl r a && shB n w t fl (r + 1) b) (n - 1))) y := by
  have c8 : (Int32.toNatClampNeg 8) = 8 := by decide
  intro d
  induction d with
  | zero =>
    intro f r hr hf
    obtain ⟨f, rfl⟩ := pred1 hf
    unfold lp_X7_ship_L27
    refine ⟨nI r, ?_⟩
    rw [nI_1, if_pos (nI_le (by omega) (by omega)), show n - 1 = r by omega]
  | succ d ih =>
    intro f r hr hf
    obtain ⟨f, rfl⟩ := pred1 (Nat.lt_of_le_of_lt (Nat.zero_le _) hf)
    unfold lp_X7_ship_L27
    have hl := wl_lt (fun r => shB n w t fl r a && shB n w t fl (r + 1) b) r (by omega)
    have p1 := P_lt hn hw (r := r) (by omega)
    have p2 := P_lt hn hw (r := r + 1) (by omega)
    have f1 := hfl _ p1
    have f2 := hfl _ p2
    obtain ⟨y, h⟩ := ih f (r + 1) (by omega) (by omega)
    refine ⟨y, ?_⟩
    rw [wl_s] at h
    rw [nI_1, if_neg (nI_ge (by omega) (by omega)), c8, h8, nC (a := r) (by omega), nC (a := r + 1) (by omega), hR r (by omega), hR (r + 1) (by omega), nC (a := P n w r) (by omega), nC (a := P n w (r + 1)) (by omega), hff _ p1, hff _ p2, if_neg (nH (by omega) (by omega)), if_neg (nH (by omega) (by omega)), has_eq t ht _ (by omega), bs, has_eq t ht _ (by omega), bs, or0 _ hl, orbit_eq _ hl r (by omega), ifEq (by omega) (by omega)]
    have u1 : shB n w t fl r a = (fl (P n w r) == a && !(bt6 t (P n w r))) := rfl
    have u2 : shB n w t fl (r + 1) b = (fl (P n w (r + 1)) == b && !(bt6 t (P n w (r + 1)))) := rfl
    by_cases z1 : fl (P n w r) = a
    · rw [if_pos z1, if_neg (nH (by omega) (by omega)), if_neg (nH (by omega) (by omega)), ifEq (by omega) (by omega)]
      by_cases z2 : fl (P n w (r + 1)) = b
      · rw [if_pos z2, if_neg (nH (by omega) (by omega))]
        cases h1 : bt6 t (P n w r)
        · rw [if_neg (show ¬ (false = true) by decide), if_pos rfl, if_neg (nH (by omega) (by omega))]
          cases h2 : bt6 t (P n w (r + 1))
          · rw [if_neg (show ¬ (false = true) by decide), if_pos rfl]
            rw [if_pos (by rw [u1, u2, h1, h2]; simp [z1, z2])] at h
            exact h
          · rw [if_pos rfl, if_neg (show ¬ (1 : Int32) = 0 by decide)]
            rw [if_neg (by rw [u1, u2, h1, h2]; simp)] at h
            exact h
        · rw [if_pos rfl, if_neg (show ¬ (1 : Int32) = 0 by decide)]
          rw [if_neg (by rw [u1, u2, h1]; simp)] at h
          exact h
      · rw [if_neg z2]
        rw [if_neg (by rw [u1, u2]; simp [z2])] at h
        exact h
    · rw [if_neg z1]
      rw [if_neg (by rw [u1, u2]; simp [z1])] at h
      exact h
theorem ship_eq {n sg : Nat} {fl ht : Nat → Nat} {way moons burnt out : Int32} {fk fc ff st flash : Nat → Int32}
    (hT : Tab n fk fc) (hC : Told6 n sg fl ht) (hff : ∀ a, a < n → ff a = nI (fl a)) (hmf : ∀ a, a < n → flash a = nI (fl a)) (hE : EN n way moons burnt out st 0) (x1 x2 : Int32) :
    ∃ a, f_X6_ship (nI n) way out fk ff x1 x2 = some a ∧ f_X7_ship (nI n) flash st x1 x2 = some a := by
  obtain ⟨hn, hsg, hfl, hht, hsym⟩ := id hC
  obtain ⟨w, m, b, t, g1, g2, g3, g4, g5, g6, g7, g8, g9, g10, g11⟩ := hE
  have hR : Row n w st := fun r hr => by have := g8 r hr; rw [Nat.zero_add] at this; exact this
  have g11 : st 8 = nI t := g11
  unfold f_X6_ship f_X7_ship
  rcases flash_in x1 with ⟨f1, f2⟩ | ⟨a, a1, a2, e1, f1, f2⟩
  · exact ⟨-1, by rw [f1, bs, if_pos rfl], by rw [f2, bs, if_pos rfl]⟩
  · rw [f1, bs, if_neg (show ¬ (1 : Int32) = 0 by decide), f2, bs, if_neg (show ¬ (1 : Int32) = 0 by decide)]
    rcases flash_in x2 with ⟨f3, f4⟩ | ⟨c, c1, c2, e2, f3, f4⟩
    · exact ⟨-1, by rw [f3, bs, if_pos rfl], by rw [f4, bs, if_pos rfl]⟩
    · rw [f3, bs, if_neg (show ¬ (1 : Int32) = 0 by decide), f4, bs, if_neg (show ¬ (1 : Int32) = 0 by decide), e1, e2, g4, g7]
      obtain ⟨y, h1⟩ := ship_x (fl := fl) (a := a) (b := c) (k := fun y10 _ => some y10) hT hn g1 g3 hff (fun a ha => (hfl a ha).2) a2 c2 (n - 1) FU 0 (by omega) (by show _ < 4096; omega)
      obtain ⟨y', h2⟩ := ship_m (fl := fl) (a := a) (b := c) (k := fun y18 _ => some y18) hR g11 hn g1 g3 hmf (fun a ha => (hfl a ha).2) a2 c2 (n - 1) FU 0 (by omega) (by show _ < 4096; omega)
      exact ⟨_, h1, h2⟩
-- the odds of fog
def oc (n sg w t r i : Nat) : Nat := if dr i r ≤ sg ∧ ¬ bt6 t (P n w i) = true then 1 else 0
theorem oc_le (n sg w t r i : Nat) : oc n sg w t r i ≤ 1 := by unfold oc; split <;> omega
theorem oc_sum {n sg w t r k : Nat} (hk : k ≤ 6) : sm (oc n sg w t r) k ≤ 6 := by
  have := sm_le (f := oc n sg w t r) (c := 1) k (fun j _ => oc_le _ _ _ _ _ _)
  omega
theorem lights_x {n sg w t r : Nat} {fk fc : Nat → Int32} {k : Int32 → Int32 → Option Int32} (hT : Tab n fk fc) (hn : n < 7) (hsg : sg < 6) (hw : w < fac n) (ht : t < 64) (hr : r < n) :
    ∀ (d f i : Nat), n = i + d → d < f → ∃ y, lp_X6_lightsInSight_L4 (nI n) (nI sg) (nI w) (nI t) fk (nI r) k f (nI (sm (oc n sg w t r) i)) (nI i) = k (nI (sm (oc n sg w t r) n)) y := by
  intro d
  induction d with
  | zero =>
    intro f i hi hf
    obtain ⟨f, rfl⟩ := pred1 hf
    unfold lp_X6_lightsInSight_L4
    exact ⟨nI i, by rw [if_pos (nI_le (by omega) (by omega)), show i = n by omega]⟩
  | succ d ih =>
    intro f i hi hf
    obtain ⟨f, rfl⟩ := pred1 (Nat.lt_of_le_of_lt (Nat.zero_le _) hf)
    obtain ⟨y, h⟩ := ih f (i + 1) (by omega) (by omega)
    refine ⟨y, ?_⟩
    unfold lp_X6_lightsInSight_L4
    have hp := P_lt hn hw (r := i) (by omega)
    have hd : dr i r < 2 ^ 31 := by unfold dr; split <;> omega
    have e : sm (oc n sg w t r) (i + 1) = sm (oc n sg w t r) i + oc n sg w t r i := rfl
    rw [if_neg (nI_ge (by omega) (by omega)), dr_x i (by omega) r (by omega), ifLt (by omega) hd, who_t hT hn hw (by omega), bs, isOut_eq t ht _ (by omega), bs, nI_1, nI_1]
    rw [e] at h
    by_cases z : sg < dr i r
    · have e1 : oc n sg w t r i = 0 := by unfold oc; rw [if_neg (by omega)]
      rw [e1, Nat.add_zero] at h
      rw [if_pos z]
      exact h
    · rw [if_neg z]
      cases hb : bt6 t (P n w i)
      · have e1 : oc n sg w t r i = 1 := by unfold oc; rw [if_pos ⟨by omega, by rw [hb]; decide⟩]
        rw [e1] at h
        rw [if_neg (show ¬ (false = true) by decide), if_pos rfl]
        exact h
      · have e1 : oc n sg w t r i = 0 := by unfold oc; rw [if_neg (fun q => q.2 hb)]
        rw [e1, Nat.add_zero] at h
        rw [if_pos rfl, if_neg (show ¬ (1 : Int32) = 0 by decide)]
        exact h
theorem sub_lt6 : ∀ s : Nat, s < 6 → ∀ i : Nat, i < 6 → ∀ r : Nat, r < 6 → decide (nI s < nI i - nI r) = decide (s + r < i) := by decide +kernel
theorem lights_m {n sg w t r x : Nat} {st : Nat → Int32} {k : Int32 → Int32 → Int32 → Option Int32} (hR : Row n w st) (h8 : st 8 = nI t) (hn : n < 7) (hsg : sg < 6) (hw : w < fac n) (ht : t < 64) (hr : r < n) :
    ∀ (d f i : Nat), n = i + d → d < f → ∃ y, lp_X7_odds_L38 (nI n) (nI sg) st (nI r) (nI x) k f (nI (10 ^ sm (oc n sg w t r) i)) (nI (x ^ sm (oc n sg w t r) i)) (nI i) = k (nI (10 ^ sm (oc n sg w t r) n)) (nI (x ^ sm (oc n sg w t r) n)) y := by
  have c8 : (Int32.toNatClampNeg 8) = 8 := by decide
  intro d
  induction d with
  | zero =>
    intro f i hi hf
    obtain ⟨f, rfl⟩ := pred1 hf
    unfold lp_X7_odds_L38
    exact ⟨nI i, by rw [if_pos (nI_le (by omega) (by omega)), show i = n by omega]⟩
  | succ d ih =>
    intro f i hi hf
    obtain ⟨f, rfl⟩ := pred1 (Nat.lt_of_le_of_lt (Nat.zero_le _) hf)
    obtain ⟨y, h⟩ := ih f (i + 1) (by omega) (by omega)
    refine ⟨y, ?_⟩
    unfold lp_X7_odds_L38
    have hp := P_lt hn hw (r := i) (by omega)
    have e : sm (oc n sg w t r) (i + 1) = sm (oc n sg w t r) i + oc n sg w t r i := rfl
    have l1 : (nI sg < nI i - nI r) = (sg + r < i) := propext (decide_eq_decide.mp (sub_lt6 sg hsg i (by omega) r (by omega)))
    have l2 : (nI sg < nI r - nI i) = (sg + i < r) := propext (decide_eq_decide.mp (sub_lt6 sg hsg r (by omega) i (by omega)))
    rw [if_neg (nI_ge (by omega) (by omega)), c8, h8, nC (by omega), hR i (by omega), has_eq t ht _ (by omega), bs, nI_1, show nI (10 ^ sm (oc n sg w t r) i) * 10 = nI (10 ^ (sm (oc n sg w t r) i + 1)) from by rw [show (10 : Int32) = nI 10 from rfl, nM, Nat.pow_succ], nM, ← Nat.pow_succ]
    rw [e] at h
    by_cases z : dr i r ≤ sg
    · have z1 : ¬ nI sg < nI i - nI r := by rw [l1]; unfold dr at z; split at z <;> omega
      have z2 : ¬ nI sg < nI r - nI i := by rw [l2]; unfold dr at z; split at z <;> omega
      rw [if_neg z1, if_neg z2, if_neg (nH (by omega) (by omega))]
      cases hb : bt6 t (P n w i)
      · have e1 : oc n sg w t r i = 1 := by unfold oc; rw [if_pos ⟨z, by rw [hb]; decide⟩]
        rw [e1] at h
        rw [if_neg (show ¬ (false = true) by decide), if_pos rfl]
        exact h
      · have e1 : oc n sg w t r i = 0 := by unfold oc; rw [if_neg (fun q => q.2 hb)]
        rw [e1, Nat.add_zero] at h
        rw [if_pos rfl, if_neg (show ¬ (1 : Int32) = 0 by decide)]
        exact h
    · have e1 : oc n sg w t r i = 0 := by unfold oc; rw [if_neg (fun q => z q.1)]
      rw [e1, Nat.add_zero] at h
      by_cases z1 : sg + r < i
      · rw [if_pos (by rw [l1]; exact z1)]
        exact h
      · rw [if_neg (by rw [l1]; exact z1), if_pos (by rw [l2]; unfold dr at z; split at z <;> omega)]
        exact h
theorem power_x : ∀ b : Nat, b < 11 → ∀ l : Nat, l < 7 → f_X6_power (nI b) (nI l) = some (nI (b ^ l)) := by decide +kernel
def odX (x3 a b : Int32) : Option Int32 :=
  (f_X6_commonDivisor (a - b) a).bind fun u10 =>
  if 0 < u10 then
    if x3 = 0 then
      if u10 = 0 then none else
      some ((a - b) / u10)
    else
      if u10 = 0 then none else
      some (a / u10)
  else
    some (-1)
def odM (x3 a b : Int32) : Option Int32 :=
  lp_X7_odds_L135 (fun y18 _ =>
      if x3 = 0 then
        if y18 = 0 then none else
        some ((a - b) / y18)
      else
        if y18 = 0 then none else
        some (a / y18))
    FU (a - b) a
theorem od_all0 : ∀ l : Nat, l < 7 → ∀ x : Nat, x < 11 → odX 0 (nI (10 ^ l)) (nI (x ^ l)) = odM 0 (nI (10 ^ l)) (nI (x ^ l)) ∧ (odX 0 (nI (10 ^ l)) (nI (x ^ l))).isSome = true := by decide +kernel
theorem od_all1 : ∀ l : Nat, l < 7 → ∀ x : Nat, x < 11 → odX 1 (nI (10 ^ l)) (nI (x ^ l)) = odM 1 (nI (10 ^ l)) (nI (x ^ l)) ∧ (odX 1 (nI (10 ^ l)) (nI (x ^ l))).isSome = true := by decide +kernel
theorem od_at {l x : Nat} {x3 : Int32} (hl : l < 7) (hx : x < 11) (h3 : x3 = 0 ∨ x3 = 1) : ∃ v, odX x3 (nI (10 ^ l)) (nI (x ^ l)) = some v ∧ odM x3 (nI (10 ^ l)) (nI (x ^ l)) = some v := by
  have h : odX x3 (nI (10 ^ l)) (nI (x ^ l)) = odM x3 (nI (10 ^ l)) (nI (x ^ l)) ∧ (odX x3 (nI (10 ^ l)) (nI (x ^ l))).isSome = true := by
    rcases h3 with z | z
    · subst z; exact od_all0 l hl x hx
    · subst z; exact od_all1 l hl x hx
  obtain ⟨v, hv⟩ := Option.isSome_iff_exists.mp h.2
  exact ⟨v, hv, by rw [← h.1]; exact hv⟩
theorem odds_eq {n sg : Nat} {fl ht : Nat → Nat} {way moons burnt out : Int32} {fk fc st : Nat → Int32}
    (hT : Tab n fk fc) (hC : Told6 n sg fl ht) (hE : EN n way moons burnt out st 0) (x1 x2 x3 : Int32) :
    ∃ a, f_X6_odds (nI n) (nI sg) way out fk x1 x2 x3 = some a ∧ f_X7_odds (nI n) (nI sg) st x1 x2 x3 = some a := by
  obtain ⟨hn, hsg, hfl, hht, hsym⟩ := id hC
  obtain ⟨w, m, b, t, g1, g2, g3, g4, g5, g6, g7, g8, g9, g10, g11⟩ := hE
  have hR : Row n w st := fun r hr => by have := g8 r hr; rw [Nat.zero_add] at this; exact this
  have g11 : st 8 = nI t := g11
  unfold f_X6_odds f_X7_odds
  rcases asked n hn x1 with ⟨-, k1, o1, -⟩ | ⟨r, hr, e1, -, k1, o1⟩
  · exact ⟨-1, by rw [k1, bs, if_pos rfl], by rw [o1, bs, if_pos rfl]⟩
  · rw [k1, bs, if_neg (show ¬ (1 : Int32) = 0 by decide), o1, bs, if_neg (show ¬ (1 : Int32) = 0 by decide)]
    rcases in_n (hi := 10) (by omega) x2 with ⟨z, h⟩ | ⟨z1, z2, h⟩ | ⟨x, hx, e2, h⟩
    · have h : f_X7_in x2 0 10 = some 0 := h
      exact ⟨-1, by rw [if_pos z], by rw [h, bs, if_pos rfl]⟩
    · have h : f_X7_in x2 0 10 = some 0 := h
      exact ⟨-1, by rw [if_neg z1, if_pos (show (10 : Int32) < x2 from z2)], by rw [h, bs, if_pos rfl]⟩
    · have h : f_X7_in x2 0 10 = some 1 := h
      rw [if_neg (by rw [e2]; exact nP (by omega)), if_neg (show ¬ (10 : Int32) < x2 from fun q => by rw [e2, show (10 : Int32) = nI 10 from rfl, nLt (by omega) (by omega)] at q; omega), h, bs, if_neg (show ¬ (1 : Int32) = 0 by decide)]
      rcases zo x3 with ⟨j0, j1, z3⟩ | ⟨j0, j1, -, -⟩
      · rw [j0, bs, if_neg (show ¬ (1 : Int32) = 0 by decide), j1, bs, if_neg (show ¬ (1 : Int32) = 0 by decide), e1, e2, g4, g7]
        obtain ⟨y, l1⟩ := lights_x (sg := sg) (k := fun y6 _ => some y6) hT hn hsg g1 g3 hr n FU 0 (by omega) (by show _ < 4096; omega)
        have l1 : f_X6_lightsInSight (nI n) (nI sg) (nI w) (nI t) fk (nI r) = some (nI (sm (oc n sg w t r) n)) := l1
        have hL : sm (oc n sg w t r) n < 7 := Nat.lt_succ_of_le (oc_sum (by omega))
        obtain ⟨v, v1, v2⟩ := od_at (x3 := x3) hL (show x < 11 by omega) z3
        obtain ⟨y', l2⟩ := lights_m (x := x) (k := fun y13 y14 _ => odM x3 y13 y14) hR g11 hn hsg g1 g3 hr n FU 0 (by omega) (by show _ < 4096; omega)
        refine ⟨v, ?_, ?_⟩
        · rw [l1, bs, show (10 : Int32) = nI 10 from rfl, power_x 10 (by omega) _ hL, bs, power_x x (by omega) _ hL, bs]
          exact v1
        · exact l2.trans v2
      · exact ⟨-1, by rw [j0, bs, if_pos rfl], by rw [j1, bs, if_pos rfl]⟩
