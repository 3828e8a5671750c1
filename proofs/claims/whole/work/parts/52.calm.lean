/-! ===== 52.calm: the calmest change, and how far the keepers have drifted ===== -/
def cs (n sg : Nat) (fl ht : Nat → Nat) (u : Nat) : Nat → Nat × Nat
  | 0 => (0, LK n sg (fun r => fl (P n u r)))
  | k + 1 => if k + 1 < CH n ∧ okf n ht u (k + 1) = true then
      (if LK n sg (fun r => fl (P n (AF n u (k + 1)) r)) < (cs n sg fl ht u k).2 then (k + 1, LK n sg (fun r => fl (P n (AF n u (k + 1)) r)))
       else if LK n sg (fun r => fl (P n (AF n u (k + 1)) r)) = (cs n sg fl ht u k).2 then (if pc6 (k + 1) ≤ pc6 (cs n sg fl ht u k).1 then cs n sg fl ht u k else (k + 1, LK n sg (fun r => fl (P n (AF n u (k + 1)) r)))) else cs n sg fl ht u k)
    else cs n sg fl ht u k
theorem cs_le {n sg u : Nat} {fl ht : Nat → Nat} (hn : n < 7) : ∀ k : Nat, (cs n sg fl ht u k).1 ≤ k ∧ (cs n sg fl ht u k).2 ≤ 36
  | 0 => ⟨Nat.le_refl _, LK_le hn⟩
  | k + 1 => by
    have ih := cs_le (n := n) (sg := sg) (u := u) (fl := fl) (ht := ht) hn k
    have hl := LK_le (sg := sg) (col := fun r => fl (P n (AF n u (k + 1)) r)) hn
    unfold cs
    split
    · split
      · exact ⟨Nat.le_refl _, hl⟩
      · split
        · split
          · exact ⟨by omega, ih.2⟩
          · exact ⟨Nat.le_refl _, hl⟩
        · exact ⟨by omega, ih.2⟩
    · exact ⟨by omega, ih.2⟩
theorem cs_no {n sg u k : Nat} {fl ht : Nat → Nat} (h : ¬ (k + 1 < CH n ∧ okf n ht u (k + 1) = true)) : cs n sg fl ht u (k + 1) = cs n sg fl ht u k := by
  show (if k + 1 < CH n ∧ okf n ht u (k + 1) = true then _ else _) = _
  rw [if_neg h]
theorem cs_yes {n sg u k l : Nat} {fl ht : Nat → Nat} (h : k + 1 < CH n ∧ okf n ht u (k + 1) = true) (hl : LK n sg (fun r => fl (P n (AF n u (k + 1)) r)) = l) : cs n sg fl ht u (k + 1) = if l < (cs n sg fl ht u k).2 then (k + 1, l) else if l = (cs n sg fl ht u k).2 then (if pc6 (k + 1) ≤ pc6 (cs n sg fl ht u k).1 then cs n sg fl ht u k else (k + 1, l)) else cs n sg fl ht u k := by
  show (if k + 1 < CH n ∧ okf n ht u (k + 1) = true then _ else _) = _
  rw [if_pos h, hl]
theorem cs_stay {n sg u m : Nat} {fl ht : Nat → Nat} (hm : CH n ≤ m + 1) : ∀ k, cs n sg fl ht u (m + k) = cs n sg fl ht u m
  | 0 => rfl
  | k + 1 => by
    rw [show m + (k + 1) = (m + k) + 1 by omega, cs_no (fun z => by omega)]
    exact cs_stay hm k
theorem pc6_le (m : Nat) : pc6 m ≤ 6 := by unfold pc6; omega
theorem calm_x {n sg u : Nat} {fl ht : Nat → Nat} {fk fc ff : Nat → Int32} {k : Int32 → Int32 → Int32 → Option Int32} (hT : Tab n fk fc) (hC : Told6 n sg fl ht) (hff : ∀ a, a < n → ff a = nI (fl a)) (hu : u < fac n) :
    ∀ (d f c : Nat), CH n = c + 1 + d → d < f → ∃ y z, lp_X3_calmest_L18 (nI n) (nI sg) fk ff fc (nI u) (nI (wl (okr n u ht) (n - 1))) k f (nI (cs n sg fl ht u c).1) (nI (cs n sg fl ht u c).2) (nI (c + 1)) = k (nI (cs n sg fl ht u (CH n - 1)).1) y z := by
  obtain ⟨hn, hsg, hfl, hht, hsym⟩ := id hC
  have hCl := CH_le n hn
  intro d
  induction d with
  | zero =>
    intro f c hc hf
    obtain ⟨f, rfl⟩ := pred1 hf
    unfold lp_X3_calmest_L18
    exact ⟨nI (cs n sg fl ht u c).2, nI (c + 1), by rw [changes_x n hn, bs, if_pos (nI_le (by omega) (by omega)), show CH n - 1 = c by omega]⟩
  | succ d ih =>
    intro f c hc hf
    obtain ⟨f, rfl⟩ := pred1 (Nat.lt_of_le_of_lt (Nat.zero_le _) hf)
    obtain ⟨y, z, h⟩ := ih f (c + 1) (by omega) (by omega)
    refine ⟨y, z, ?_⟩
    unfold lp_X3_calmest_L18
    rw [changes_x n hn, bs, if_neg (nI_ge (by omega) (by omega)), allows_x _ (wl_lt _ _ (by omega)) _ (by omega), bs, alB_AL _ hn (by omega), nI_1]
    have hok : AL n (okr n u ht) (c + 1) = okf n ht u (c + 1) := rfl
    rw [hok]
    cases hb : okf n ht u (c + 1)
    · rw [cs_no (fun z => by rw [hb] at z; exact absurd z.2 (by decide))] at h
      rw [if_neg (show ¬ (false = true) by decide), if_pos rfl]
      exact h
    · have hv := AF_lt (c := c + 1) hn hu
      have hcs := cs_le (sg := sg) (u := u) (fl := fl) (ht := ht) hn c
      obtain ⟨l, hl⟩ : ∃ l, LK n sg (fun r => fl (P n (AF n u (c + 1)) r)) = l := ⟨_, rfl⟩
      have hl2 := LK_le (sg := sg) (col := fun r => fl (P n (AF n u (c + 1)) r)) hn
      rw [hl] at hl2
      have hp1 := pc6_le (c + 1)
      have hp2 := pc6_le (cs n sg fl ht u c).1
      rw [cs_yes ⟨by omega, hb⟩ hl] at h
      rw [if_pos (show true = true from rfl), if_neg (show ¬ (1 : Int32) = 0 by decide), after_x hT hn hu (by omega), bs, likes_x hn hsg (fun r hr => flashAt_t hT hn hv hr hff) (fun r hr => (hfl _ (P_lt hn hv hr)).2), bs, hl, bitCount_eq _ (by omega), bs, bitCount_eq _ (by omega), bs, ifLe (by omega) (by omega)]
      by_cases b1 : pc6 (c + 1) ≤ pc6 (cs n sg fl ht u c).1
      · rw [if_pos b1] at h
        rw [if_pos b1, ifLt (by omega) (by omega)]
        by_cases b2 : l < (cs n sg fl ht u c).2
        · rw [if_pos b2] at h
          rw [if_pos b2]
          exact h
        · rw [if_neg b2] at h
          rw [if_neg b2, ifEq (by omega) (by omega)]
          by_cases b3 : l = (cs n sg fl ht u c).2
          · rw [if_pos b3] at h; rw [if_pos b3]; exact h
          · rw [if_neg b3] at h; rw [if_neg b3]; exact h
      · rw [if_neg b1] at h
        rw [if_neg b1, ifLt (by omega) (by omega)]
        by_cases b2 : l < (cs n sg fl ht u c).2
        · rw [if_pos b2] at h
          rw [if_pos b2]
          exact h
        · rw [if_neg b2] at h
          rw [if_neg b2, ifEq (by omega) (by omega)]
          by_cases b3 : l = (cs n sg fl ht u c).2
          · rw [if_pos b3] at h; rw [if_pos b3]; exact h
          · rw [if_neg b3] at h; rw [if_neg b3]; exact h
theorem calmest_x {n sg u : Nat} {fl ht : Nat → Nat} {fk fc ff fh : Nat → Int32} (hT : Tab n fk fc) (hC : Told6 n sg fl ht) (hff : ∀ a, a < n → ff a = nI (fl a)) (hfh : ∀ a, a < n → fh a = nI (ht a)) (hu : u < fac n) :
    f_X3_calmest (nI n) (nI sg) fk fh ff fc (nI u) = some (nI (cs n sg fl ht u (CH n - 1)).1) := by
  obtain ⟨hn, hsg, hfl, hht, hsym⟩ := id hC
  have hCl := CH_le n hn
  unfold f_X3_calmest
  rw [willing_x hT hn hu (fun a ha => ⟨hfh a ha, hht a ha⟩), bs, likes_x hn hsg (fun r hr => flashAt_t hT hn hu hr hff) (fun r hr => (hfl _ (P_lt hn hu hr)).2), bs]
  obtain ⟨y, z, h⟩ := calm_x (k := fun y16 _ _ => some y16) (ht := ht) hT hC hff hu (CH n - 1) FU 0 (by omega) (by show _ < 4096; omega)
  exact h
theorem calm_ml {n sg u : Nat} {fl ht : Nat → Nat} {st hates flash : Nat → Int32} {k : Int32 → Int32 → Int32 → (Nat → Int32) → Option (Int32 × (Nat → Int32))} (hC : Told6 n sg fl ht) (hff : ∀ a, a < n → flash a = nI (fl a)) (hfh : ∀ a, a < n → hates a = nI (ht a)) (hR : Row n u st) (hu : u < fac n) :
    ∀ (d f c : Nat) (at0 : Nat → Int32), 32 = c + 1 + d → d < f → ∃ y z at', lp_X7_calm_L6 (nI n) (nI sg) st hates flash k f (nI (cs n sg fl ht u c).1) (nI (cs n sg fl ht u c).2) (nI (c + 1)) at0 = k (nI (cs n sg fl ht u 31).1) y z at' := by
  obtain ⟨hn, hsg, hfl, hht, hsym⟩ := id hC
  have hCl := CH_le n hn
  intro d
  induction d with
  | zero =>
    intro f c at0 hc hf
    obtain ⟨f, rfl⟩ := pred1 hf
    unfold lp_X7_calm_L6
    exact ⟨nI (cs n sg fl ht u c).2, nI (c + 1), at0, by rw [if_pos (show (32 : Int32) ≤ nI (c + 1) from nI_le (a := 32) (by omega) (by omega)), show c = 31 by omega]⟩
  | succ d ih =>
    intro f c at0 hc hf
    obtain ⟨f, rfl⟩ := pred1 (Nat.lt_of_le_of_lt (Nat.zero_le _) hf)
    have ih' := fun (at0 : Nat → Int32) => ih f (c + 1) at0 (by omega) (by omega)
    unfold lp_X7_calm_L6
    rw [if_neg (show ¬ (32 : Int32) ≤ nI (c + 1) from nI_ge (b := 32) (by omega) (by omega)), isChange_m n hn (c + 1) (by omega), bs, nI_1]
    by_cases cc : c + 1 < CH n
    · rw [if_pos cc, if_neg (show ¬ (1 : Int32) = 0 by decide), may_m (N := 100) (ht := ht) hR (by omega) (by omega) hn hu (by omega) (fun a ha => ⟨hfh a ha, hht a ha⟩), bs]
      have hok : AL n (okr n u ht) (c + 1) = okf n ht u (c + 1) := rfl
      rw [hok]
      cases hb : okf n ht u (c + 1)
      · rw [cs_no (fun z => by rw [hb] at z; exact absurd z.2 (by decide))] at ih'
        rw [if_neg (show ¬ (false = true) by decide), if_pos rfl]
        exact ih' at0
      · obtain ⟨at1, a1, a2⟩ := asIs_m (at0 := at0) hR hn
        obtain ⟨row2, b1, -, b2⟩ := chg_m (N := 6) a1 (by omega) (by omega) hn hu (show c + 1 < 32 by omega)
        have hv := AF_lt (c := c + 1) hn hu
        have hcs := cs_le (sg := sg) (u := u) (fl := fl) (ht := ht) hn c
        obtain ⟨l, hl⟩ : ∃ l, LK n sg (fun r => fl (P n (AF n u (c + 1)) r)) = l := ⟨_, rfl⟩
        have hl2 := LK_le (sg := sg) (col := fun r => fl (P n (AF n u (c + 1)) r)) hn
        rw [hl] at hl2
        have hp1 := pc6_le (c + 1)
        have hp2 := pc6_le (cs n sg fl ht u c).1
        have h := ih' row2
        rw [cs_yes ⟨by omega, hb⟩ hl] at h
        rw [if_pos (show true = true from rfl), if_neg (show ¬ (1 : Int32) = 0 by decide), a2, bs, b2, bs, likes_m hn (by omega) (by omega) hsg (fun r hr => b1 r hr) (fun r hr => P_lt hn hv hr) hff (fun a ha => (hfl a ha).2), bs, hl, if_neg (nP (by omega)), ifLt (by omega) (by omega)]
        by_cases q2 : l < (cs n sg fl ht u c).2
        · rw [if_pos q2] at h
          rw [if_pos q2]
          exact h
        · rw [if_neg q2] at h
          rw [if_neg q2, ifEq (by omega) (by omega)]
          by_cases q3 : l = (cs n sg fl ht u c).2
          · rw [if_pos q3] at h
            rw [if_pos q3, bits_eq _ (by omega), bs, bits_eq _ (by omega), bs, ifLe (by omega) (by omega)]
            by_cases q1 : pc6 (c + 1) ≤ pc6 (cs n sg fl ht u c).1
            · rw [if_pos q1] at h; rw [if_pos q1]; exact h
            · rw [if_neg q1] at h; rw [if_neg q1]; exact h
          · rw [if_neg q3] at h; rw [if_neg q3]; exact h
    · rw [cs_no (fun z => cc z.1)] at ih'
      rw [if_neg cc, if_pos rfl]
      exact ih' at0
theorem calm_m {n sg u : Nat} {fl ht : Nat → Nat} {st hates flash at0 : Nat → Int32} (hC : Told6 n sg fl ht) (hff : ∀ a, a < n → flash a = nI (fl a)) (hfh : ∀ a, a < n → hates a = nI (ht a)) (hR : Row n u st) (hu : u < fac n) :
    ∃ at', f_X7_calm (nI n) (nI sg) st hates at0 flash = some (nI (cs n sg fl ht u (CH n - 1)).1, at') := by
  obtain ⟨hn, hsg, hfl, hht, hsym⟩ := id hC
  have hCl := CH_le n hn
  unfold f_X7_calm
  obtain ⟨at1, a1, a2⟩ := asIs_m (at0 := at0) hR hn
  obtain ⟨row2, b1, -, b2⟩ := chg_m (N := 6) a1 (by omega) (by omega) hn hu (show 0 < 32 by omega)
  rw [AF_0] at b1
  have b2 : f_X7_changes (nI n) 6 at1 0 = some row2 := b2
  have c0 : f_X7_isChange (nI n) 0 = some (if 0 < CH n then 1 else 0) := isChange_m n hn 0 (by omega)
  have m0 : f_X7_mayChange (nI n) 100 st hates 0 = some (if AL n (okr n u ht) 0 = true then 1 else 0) := may_m (N := 100) (c := 0) (ht := ht) hR (by omega) (by omega) hn hu (by omega) (fun a ha => ⟨hfh a ha, hht a ha⟩)
  obtain ⟨y, z, at', h⟩ := calm_ml (k := fun y15 _ _ y18 => some (y15, y18)) hC hff hfh hR hu 31 4095 0 row2 (by omega) (by omega)
  refine ⟨at', ?_⟩
  show lp_X7_calm_L6 (nI n) (nI sg) st hates flash (fun y15 y16 y17 y18 => some (y15, y18)) (4095 + 1) 0 (-1) 0 at0 = _
  unfold lp_X7_calm_L6
  rw [if_neg (show ¬ (32 : Int32) ≤ 0 by decide), c0, bs, if_pos (show 0 < CH n by omega), if_neg (show ¬ (1 : Int32) = 0 by decide), m0, bs, AL_0, if_pos (show true = true from rfl), if_neg (show ¬ (1 : Int32) = 0 by decide), a2, bs, b2, bs, likes_m hn (by omega) (by omega) hsg (fun r hr => b1 r hr) (fun r hr => P_lt hn hu hr) hff (fun a ha => (hfl a ha).2), bs, if_pos (show (-1 : Int32) < 0 by decide)]
  have e31 : cs n sg fl ht u 31 = cs n sg fl ht u (CH n - 1) := by
    have := cs_stay (n := n) (sg := sg) (u := u) (fl := fl) (ht := ht) (m := CH n - 1) (by omega) (31 - (CH n - 1))
    rw [show CH n - 1 + (31 - (CH n - 1)) = 31 by omega] at this
    exact this
  rw [e31] at h
  exact h
-- drifts
def dr (r a : Nat) : Nat := if a ≤ r then r - a else a - r
theorem dr_x : ∀ r : Nat, r < 6 → ∀ a : Nat, a < 6 → (if 0 ≤ (nI r - nI a) then (nI r - nI a) else 0 - (nI r - nI a)) = nI (dr r a) := by decide +kernel
theorem dr_m : ∀ r : Nat, r < 6 → ∀ a : Nat, a < 6 → (if 0 ≤ (nI r - nI a) then some (nI r - nI a) else some (-(nI r - nI a))) = some (nI (dr r a)) := by decide +kernel
theorem drift_x {n w a : Nat} {fk fc : Nat → Int32} (hT : Tab n fk fc) (hn : n < 7) (hw : w < fac n) (ha : a < n) : f_X6_driftOf (nI n) (nI w) fk (nI a) = some (nI (dr (R n w a) a)) := by
  have := R_lt hn hw ha
  unfold f_X6_driftOf
  rw [rockOf_x hT hn hw ha, bs, dr_x _ (by omega) _ (by omega)]
theorem drift_m {n w a : Nat} {st : Nat → Int32} (hR : Row n w st) (hn : n < 7) (hw : w < fac n) (ha : a < n) : f_X7_driftOf st (nI a) = some (nI (dr (R n w a) a)) := by
  have := R_lt hn hw ha
  unfold f_X7_driftOf
  rw [rockOf_m (N := 100) hR (by omega) (by omega) hn hw ha, bs, dr_m _ (by omega) _ (by omega)]
theorem drifts_x {n w : Nat} {fk fc : Nat → Int32} {k : Int32 → Int32 → Option Int32} (hT : Tab n fk fc) (hn : n < 7) (hw : w < fac n) :
    ∀ (d f i : Nat), n = i + d → d < f → ∃ y, lp_X6_drifts_L4 (nI n) (nI n) (nI w) fk k f (nI (sm (fun a => dr (R n w a) a) i)) (nI i) = k (nI (sm (fun a => dr (R n w a) a) n)) y := by
  intro d
  induction d with
  | zero =>
    intro f i hi hf
    obtain ⟨f, rfl⟩ := pred1 hf
    unfold lp_X6_drifts_L4
    exact ⟨nI i, by rw [if_pos (nI_le (by omega) (by omega)), show i = n by omega]⟩
  | succ d ih =>
    intro f i hi hf
    obtain ⟨f, rfl⟩ := pred1 (Nat.lt_of_le_of_lt (Nat.zero_le _) hf)
    obtain ⟨y, h⟩ := ih f (i + 1) (by omega) (by omega)
    refine ⟨y, ?_⟩
    unfold lp_X6_drifts_L4
    rw [if_neg (nI_ge (by omega) (by omega)), drift_x hT hn hw (by omega), bs, nA, nI_1]
    exact h
theorem drifts_m {n w : Nat} {st : Nat → Int32} {k : Int32 → Int32 → Option (Int32 × (Nat → Int32))} (hR : Row n w st) (hn : n < 7) (hw : w < fac n) :
    ∀ (d f i : Nat), n = i + d → d < f → ∃ y, lp_X7_now_L4 (nI n) st k f (nI (sm (fun a => dr (R n w a) a) i)) (nI i) = k (nI (sm (fun a => dr (R n w a) a) n)) y := by
  intro d
  induction d with
  | zero =>
    intro f i hi hf
    obtain ⟨f, rfl⟩ := pred1 hf
    unfold lp_X7_now_L4
    exact ⟨nI i, by rw [if_pos (nI_le (by omega) (by omega)), show i = n by omega]⟩
  | succ d ih =>
    intro f i hi hf
    obtain ⟨f, rfl⟩ := pred1 (Nat.lt_of_le_of_lt (Nat.zero_le _) hf)
    obtain ⟨y, h⟩ := ih f (i + 1) (by omega) (by omega)
    refine ⟨y, ?_⟩
    unfold lp_X7_now_L4
    rw [if_neg (nI_ge (by omega) (by omega)), drift_m hR hn hw (by omega), bs, nA, nI_1]
    exact h
theorem now_eq {n sg u : Nat} {fl ht : Nat → Nat} {fk fc ff fh st at0 flash hates : Nat → Int32} {mo bu ou : Int32}
    (hT : Tab n fk fc) (hC : Told6 n sg fl ht) (hff : ∀ a, a < n → ff a = nI (fl a)) (hfh : ∀ a, a < n → fh a = nI (ht a)) (hmf : ∀ a, a < n → flash a = nI (fl a)) (hmh : ∀ a, a < n → hates a = nI (ht a)) (hR : Row n u st) (hu : u < fac n)
    (h6 : st 6 = mo) (h7 : st 7 = bu) (h8 : st 8 = ou) (x1 : Int32) :
    ∃ (U : Int32) (W : Int32 × (Nat → Int32)), f_X6_now (nI u) mo bu ou (nI n) (nI sg) (nI n) fk fh ff fc x1 = some U ∧ f_X7_now (nI n) (nI sg) st hates at0 flash x1 = some W ∧ U = W.1 := by
  obtain ⟨hn, hsg, hfl, hht, hsym⟩ := id hC
  obtain ⟨at', hcm⟩ := calm_m (at0 := at0) hC hmf hmh hR hu
  obtain ⟨y, hm⟩ := drifts_m (st := st) (k := fun y3 y4 =>
      if x1 = 0 then
        some ((st (Int32.toNatClampNeg 6)), at0)
      else
        if x1 = 1 then
          some ((st (Int32.toNatClampNeg 7)), at0)
        else
          if x1 = 2 then
            some ((st (Int32.toNatClampNeg 8)), at0)
          else
            if x1 = 3 then
              (f_X7_likesOf (nI n) (nI sg) 100 st flash).bind fun u9 =>
              some (u9, at0)
            else
              if x1 = 4 then
                some (y3, at0)
              else
                if x1 = 5 then
                  (f_X7_calm (nI n) (nI sg) st hates at0 flash).bind fun u12 =>
                  some (u12.1, u12.2)
                else
                  some ((-1), at0)) hR hn hu n FU 0 (by omega) (by show _ < 4096; omega)
  obtain ⟨y2, hx⟩ := drifts_x (k := fun y3 y4 => some y3) hT hn hu n FU 0 (by omega) (by show _ < 4096; omega)
  have hx : f_X6_drifts (nI n) (nI n) (nI u) fk = some (nI (sm (fun a => dr (R n u a) a) n)) := hx
  have hm : f_X7_now (nI n) (nI sg) st hates at0 flash x1 = _ := hm
  rw [hm]
  unfold f_X6_now
  by_cases c0 : x1 = 0
  · exact ⟨mo, (st 6, at0), by rw [if_pos c0], by rw [if_pos c0]; rfl, h6.symm⟩
  · rw [if_neg c0, if_neg c0]
    by_cases c1 : x1 = 1
    · exact ⟨bu, (st 7, at0), by rw [if_pos c1], by rw [if_pos c1]; rfl, h7.symm⟩
    · rw [if_neg c1, if_neg c1]
      by_cases c2 : x1 = 2
      · exact ⟨ou, (st 8, at0), by rw [if_pos c2], by rw [if_pos c2]; rfl, h8.symm⟩
      · rw [if_neg c2, if_neg c2]
        by_cases c3 : x1 = 3
        · exact ⟨_, (_, at0), by rw [if_pos c3, likes_x hn hsg (fun r hr => flashAt_t hT hn hu hr hff) (fun r hr => (hfl _ (P_lt hn hu hr)).2), bs], by rw [if_pos c3, likes_m hn (by omega) (by omega) hsg (fun r hr => hR r hr) (fun r hr => P_lt hn hu hr) hmf (fun a ha => (hfl a ha).2), bs], rfl⟩
        · rw [if_neg c3, if_neg c3]
          by_cases c4 : x1 = 4
          · exact ⟨_, (_, at0), by rw [if_pos c4, hx, bs], by rw [if_pos c4], rfl⟩
          · rw [if_neg c4, if_neg c4]
            by_cases c5 : x1 = 5
            · exact ⟨_, (_, at'), by rw [if_pos c5, calmest_x hT hC hff hfh hu, bs], by rw [if_pos c5, hcm, bs], rfl⟩
            · exact ⟨-1, (-1, at0), by rw [if_neg c5], by rw [if_neg c5], rfl⟩
