/-! ===== 51.trade: the fewest moons until two have changed their rocks ===== -/
def tm (n sg : Nat) (fl ht : Nat → Nat) (safe : Bool) (u a b v : Nat) : Option Nat := if v < fac n ∧ P n v (R n u a) = b ∧ P n v (R n u b) = a then (BE n sg fl ht safe u).1 v else none
def bt (V : Nat → Option Nat) : Nat → Option Nat
  | 0 => none
  | k + 1 => match V k with
    | none => bt V k
    | some d => match bt V k with
      | none => some d
      | some b => if d < b then some d else some b
theorem bt_none {V : Nat → Option Nat} {k : Nat} (h : V k = none) : bt V (k + 1) = bt V k := by
  show (match V k with
    | none => bt V k
    | some d => match bt V k with
      | none => some d
      | some b => if d < b then some d else some b) = _
  rw [h]
theorem bt_some {V : Nat → Option Nat} {k d : Nat} (h : V k = some d) : bt V (k + 1) = match bt V k with
      | none => some d
      | some b => if d < b then some d else some b := by
  show (match V k with
    | none => bt V k
    | some d => match bt V k with
      | none => some d
      | some b => if d < b then some d else some b) = _
  rw [h]
theorem bt_le {V : Nat → Option Nat} {m : Nat} (h : ∀ k d, V k = some d → d ≤ m) : ∀ k d, bt V k = some d → d ≤ m
  | 0, d, e => by cases e
  | k + 1, d, e => by
    cases hv : V k with
    | none => rw [bt_none hv] at e; exact bt_le h k d e
    | some dv =>
      rw [bt_some hv] at e
      have h1 := h k dv hv
      cases hb : bt V k with
      | none =>
        rw [hb] at e
        have e : dv = d := by cases e; rfl
        omega
      | some b =>
        rw [hb] at e
        have h2 := bt_le h k b hb
        have e : (if dv < b then some dv else some b) = some d := e
        split at e <;> cases e <;> omega
theorem bt_stay {V : Nat → Option Nat} {m : Nat} (h : ∀ k, m ≤ k → V k = none) : ∀ k, bt V (m + k) = bt V m
  | 0 => rfl
  | k + 1 => by
    rw [show m + (k + 1) = (m + k) + 1 by omega, bt_none (h (m + k) (by omega))]
    exact bt_stay h k
theorem fewer_x {V : Nat → Option Nat} {k : Nat} {o : Option Nat} (hV : V k = o) (hm : ∀ k d, V k = some d → d ≤ 721) : f_X6_fewer (mt (bt V k)) (mt o) = some (mt (bt V (k + 1))) := by
  unfold f_X6_fewer
  have hb := bt_le hm k
  cases o with
  | none =>
    rw [bt_none hV]
    cases e : bt V k with
    | none => rfl
    | some b =>
      have := hb b e
      rw [if_neg (show ¬ mt (some b) = -9 from n9 (by omega)), if_pos (show mt none = -9 from rfl), if_neg (show ¬ mt (some b) = -9 from n9 (by omega))]
  | some d =>
    have hd := hm k d hV
    rw [bt_some hV]
    cases e : bt V k with
    | none => rfl
    | some b =>
      have := hb b e
      rw [if_neg (show ¬ mt (some b) = -9 from n9 (by omega)), if_neg (show ¬ mt (some d) = -9 from n9 (by omega))]
      show some (if nI d < nI b then nI d else nI b) = some (mt (if d < b then some d else some b))
      rw [ifLt (by omega) (by omega)]
      by_cases q : d < b
      · rw [if_pos q, if_pos q]; rfl
      · rw [if_neg q, if_neg q]; rfl
theorem tm_le {n sg u a b : Nat} {fl ht : Nat → Nat} {safe : Bool} {mo fi : Nat → Int32} (hF : Found n sg fl ht safe u mo fi) : ∀ k d, tm n sg fl ht safe u a b k = some d → d ≤ 721 := by
  intro k d h
  unfold tm at h
  split at h
  · rename_i hc
    have := hF k hc.1
    rw [h] at this
    have := this.2.1
    omega
  · cases h
theorem trade_L94 {n sg u a b : Nat} {fl ht : Nat → Nat} {safe : Bool} {fk fc mo fi : Nat → Int32} {k : Int32 → Int32 → Option (Int32 × Int32 × Int32 × Int32 × Int32 × (Nat → Int32) × (Nat → Int32) × (Nat → Int32) × (Nat → Int32) × (Nat → Int32) × (Nat → Int32))}
    (hT : Tab n fk fc) (hn : n < 7) (hu : u < fac n) (hF : Found n sg fl ht safe u mo fi) (ha : a < n) (hb : b < n) :
    ∀ (d f v : Nat), fac n = v + d → d < f → ∃ y, lp_X6_trade_L94 (nI (fac n)) fk mo (nI a) (nI b) (nI (R n u a)) (nI (R n u b)) k f (mt (bt (tm n sg fl ht safe u a b) v)) (nI v) = k (mt (bt (tm n sg fl ht safe u a b) (fac n))) y := by
  have h720 := fac_le n hn
  intro d
  induction d with
  | zero =>
    intro f v hv hf
    obtain ⟨f, rfl⟩ := pred1 hf
    unfold lp_X6_trade_L94
    exact ⟨nI v, by rw [if_pos (nI_le (by omega) (by omega)), show v = fac n by omega]⟩
  | succ d ih =>
    intro f v hv hf
    obtain ⟨f, rfl⟩ := pred1 (Nat.lt_of_le_of_lt (Nat.zero_le _) hf)
    obtain ⟨y, h⟩ := ih f (v + 1) (by omega) (by omega)
    have hvn : v < fac n := by omega
    have p1 := P_lt hn hvn (R_lt hn hu ha)
    have p2 := P_lt hn hvn (R_lt hn hu hb)
    refine ⟨y, ?_⟩
    unfold lp_X6_trade_L94
    rw [if_neg (nI_ge (by omega) (by omega)), who_t hT hn hvn (R_lt hn hu ha), bs, ifEq (by omega) (by omega)]
    by_cases c1 : P n v (R n u a) = b
    · rw [if_pos c1, who_t hT hn hvn (R_lt hn hu hb), bs, ifEq (by omega) (by omega)]
      by_cases c2 : P n v (R n u b) = a
      · have e : tm n sg fl ht safe u a b v = (BE n sg fl ht safe u).1 v := by unfold tm; rw [if_pos ⟨hvn, c1, c2⟩]
        rw [if_pos c2, moonsTo_x hn hvn hF, bs, fewer_x e (tm_le hF), bs, nI_1]
        exact h
      · have e : tm n sg fl ht safe u a b v = none := by unfold tm; rw [if_neg (fun z => c2 z.2.2)]
        rw [bt_none e] at h
        rw [if_neg c2, nI_1]
        exact h
    · have e : tm n sg fl ht safe u a b v = none := by unfold tm; rw [if_neg (fun z => c1 z.2.1)]
      rw [bt_none e] at h
      rw [if_neg c1, nI_1]
      exact h
theorem trade_L94a {n sg u a b : Nat} {fl ht : Nat → Nat} {safe : Bool} {fk fc mo fi : Nat → Int32} {k : Int32 → Int32 → Option (Int32 × Int32 × Int32 × Int32 × Int32 × (Nat → Int32) × (Nat → Int32) × (Nat → Int32) × (Nat → Int32) × (Nat → Int32) × (Nat → Int32))}
    (hT : Tab n fk fc) (hn : n < 7) (hu : u < fac n) (hF : Found n sg fl ht safe u mo fi) (ha : a < n) (hb : b < n) :
    ∀ (d f v : Nat), fac n = v + d → d < f → ∃ y, lp_X6_trade_L94a mo (nI (fac n)) fk (nI a) (nI b) (nI (R n u a)) (nI (R n u b)) k f (mt (bt (tm n sg fl ht safe u a b) v)) (nI v) = k (mt (bt (tm n sg fl ht safe u a b) (fac n))) y := by
  have h720 := fac_le n hn
  intro d
  induction d with
  | zero =>
    intro f v hv hf
    obtain ⟨f, rfl⟩ := pred1 hf
    unfold lp_X6_trade_L94a
    exact ⟨nI v, by rw [if_pos (nI_le (by omega) (by omega)), show v = fac n by omega]⟩
  | succ d ih =>
    intro f v hv hf
    obtain ⟨f, rfl⟩ := pred1 (Nat.lt_of_le_of_lt (Nat.zero_le _) hf)
    obtain ⟨y, h⟩ := ih f (v + 1) (by omega) (by omega)
    have hvn : v < fac n := by omega
    have p1 := P_lt hn hvn (R_lt hn hu ha)
    have p2 := P_lt hn hvn (R_lt hn hu hb)
    refine ⟨y, ?_⟩
    unfold lp_X6_trade_L94a
    rw [if_neg (nI_ge (by omega) (by omega)), who_t hT hn hvn (R_lt hn hu ha), bs, ifEq (by omega) (by omega)]
    by_cases c1 : P n v (R n u a) = b
    · rw [if_pos c1, who_t hT hn hvn (R_lt hn hu hb), bs, ifEq (by omega) (by omega)]
      by_cases c2 : P n v (R n u b) = a
      · have e : tm n sg fl ht safe u a b v = (BE n sg fl ht safe u).1 v := by unfold tm; rw [if_pos ⟨hvn, c1, c2⟩]
        rw [if_pos c2, moonsTo_x hn hvn hF, bs, fewer_x e (tm_le hF), bs, nI_1]
        exact h
      · have e : tm n sg fl ht safe u a b v = none := by unfold tm; rw [if_neg (fun z => c2 z.2.2)]
        rw [bt_none e] at h
        rw [if_neg c2, nI_1]
        exact h
    · have e : tm n sg fl ht safe u a b v = none := by unfold tm; rw [if_neg (fun z => c1 z.2.1)]
      rw [bt_none e] at h
      rw [if_neg c1, nI_1]
      exact h
theorem trade_m {n sg u a b : Nat} {fl ht : Nat → Nat} {safe : Bool} {far mo fi : Nat → Int32} {k : Int32 → Int32 → (Nat → Int32) → (Nat → Int32) → Option (Int32 × (Nat → Int32) × (Nat → Int32) × (Nat → Int32) × (Nat → Int32))}
    (hC : Told6 n sg fl ht) (hu : u < fac n) (hF : Found n sg fl ht safe u mo fi) (hM : FoundM n sg fl ht safe u far) (ha : a < n) (hb : b < n) (hab : a ≠ b) :
    ∀ (d f v : Nat) (of at0 : Nat → Int32), 720 = v + d → d < f → ∃ y of' at', lp_X7_trade_L74 (nI n) far (nI a) (nI b) (nI (R n u a)) (nI (R n u b)) k f (mt (bt (tm n sg fl ht safe u a b) v)) (nI v) of at0 = k (mt (bt (tm n sg fl ht safe u a b) 720)) y of' at' := by
  obtain ⟨hn, hsg, hfl, hht, hsym⟩ := id hC
  have h720 := fac_le n hn
  intro d
  induction d with
  | zero =>
    intro f v of at0 hv hf
    obtain ⟨f, rfl⟩ := pred1 hf
    unfold lp_X7_trade_L74
    exact ⟨nI v, of, at0, by rw [if_pos (show (720 : Int32) ≤ nI v from nI_le (a := 720) (by omega) (by omega)), show v = 720 by omega]⟩
  | succ d ih =>
    intro f v of at0 hv hf
    obtain ⟨f, rfl⟩ := pred1 (Nat.lt_of_le_of_lt (Nat.zero_le _) hf)
    have ih' := fun (of at0 : Nat → Int32) => ih f (v + 1) of at0 (by omega) (by omega)
    unfold lp_X7_trade_L74
    rw [if_neg (show ¬ (720 : Int32) ≤ nI v from nI_ge (b := 720) (by omega) (by omega)), if_neg (nG (by omega) (by omega)), nC (by omega), nI_1]
    have skip : tm n sg fl ht safe u a b v = none → ∀ of at0, ∃ y of' at', lp_X7_trade_L74 (nI n) far (nI a) (nI b) (nI (R n u a)) (nI (R n u b)) k f (mt (bt (tm n sg fl ht safe u a b) v)) (nI (v + 1)) of at0 = k (mt (bt (tm n sg fl ht safe u a b) 720)) y of' at' := fun e of at0 => by
      have := ih' of at0
      rw [bt_none e] at this
      exact this
    rcases Nat.lt_or_ge v (fac n) with hvn | hvn
    · have hfv := hM.1 v hvn
      cases ev : (BE n sg fl ht safe u).1 v with
      | none =>
        rw [ev] at hfv
        have hfv : far v = -1 := hfv
        rw [hfv, if_pos (show (-1 : Int32) ≤ 0 by decide)]
        exact skip (by unfold tm; split; exact ev; rfl) of at0
      | some dv =>
        rw [ev] at hfv
        obtain ⟨g1, g2⟩ := hfv
        rw [g1]
        rcases Nat.eq_zero_or_pos dv with z | z
        · subst z
          have hvu : v = u := (b_end (CH n) (okf n ht) (AF n) (sff n sg fl safe) (F := fun _ => 0) (Q := fun _ => 0) hu (CH_le n hn).2 (af_ok n hn) (BE n sg fl ht safe u) rfl).2.1.2 v ev
          rw [if_pos (show nI 0 ≤ 0 by decide)]
          exact skip (by unfold tm; rw [if_neg (fun y => hab (by rw [← P_R hn hu ha]; rw [hvu] at y; exact y.2.1))]) of at0
        · have p1 := P_lt hn hvn (R_lt hn hu ha)
          have p2 := P_lt hn hvn (R_lt hn hu hb)
          have r1 := R_lt hn hu ha
          have r2 := R_lt hn hu hb
          obtain ⟨of1, at1, a1, -, a2⟩ := isWay_m (f_of := of) (f_at := at0) hn hvn
          rw [if_neg (nI_nle z (by omega)), a2]
          cases eb : bt (tm n sg fl ht safe u a b) v with
          | none =>
            rw [eb] at skip
            rw [if_pos (show mt none < 0 by decide), bs, if_neg (nG (by omega) (by omega)), nC (by omega), show (of1, at1).2 = at1 from rfl, a1 _ r2, ifEq (by omega) (by omega)]
            by_cases c2 : P n v (R n u b) = a
            · rw [if_pos c2, if_neg (nG (by omega) (by omega)), nC (by omega), a1 _ r1, ifEq (by omega) (by omega)]
              by_cases c1 : P n v (R n u a) = b
              · have e : tm n sg fl ht safe u a b v = some dv := by unfold tm; rw [if_pos ⟨hvn, c1, c2⟩]; exact ev
                have := ih' of1 at1
                rw [bt_some e, eb] at this
                rw [if_pos c1, if_neg (nH (by omega) (by omega))]
                exact this
              · rw [if_neg c1]
                exact skip (by unfold tm; rw [if_neg (fun z => c1 z.2.1)]) of1 at1
            · rw [if_neg c2]
              exact skip (by unfold tm; rw [if_neg (fun z => c2 z.2.2)]) of1 at1
          | some bb =>
            rw [eb] at skip
            have hbb := bt_le (tm_le hF) v bb eb
            rw [if_neg (show ¬ mt (some bb) < 0 from nP (by omega)), if_neg (nH (by omega) (by omega))]
            show ∃ y of' at', (if nI bb ≤ nI dv then _ else _) = _
            rw [ifLe (by omega) (by omega)]
            by_cases q : bb ≤ dv
            · rw [if_pos q]
              have : bt (tm n sg fl ht safe u a b) (v + 1) = some bb := by
                cases e : tm n sg fl ht safe u a b v with
                | none => rw [bt_none e]; exact eb
                | some d2 =>
                  have e3 : d2 = dv := by
                    unfold tm at e
                    split at e
                    · rw [ev] at e; cases e; rfl
                    · cases e
                  rw [bt_some e, eb]
                  show (if d2 < bb then some d2 else some bb) = some bb
                  rw [if_neg (by omega)]
              have h2 := ih' of at0
              rw [this] at h2
              exact h2
            · rw [if_neg q, bs, if_neg (nG (by omega) (by omega)), nC (by omega), show (of1, at1).2 = at1 from rfl, a1 _ r2, ifEq (by omega) (by omega)]
              by_cases c2 : P n v (R n u b) = a
              · rw [if_pos c2, if_neg (nG (by omega) (by omega)), nC (by omega), a1 _ r1, ifEq (by omega) (by omega)]
                by_cases c1 : P n v (R n u a) = b
                · have e : tm n sg fl ht safe u a b v = some dv := by unfold tm; rw [if_pos ⟨hvn, c1, c2⟩]; exact ev
                  have h2 := ih' of1 at1
                  rw [bt_some e, eb] at h2
                  have h2 : ∃ y of' at', lp_X7_trade_L74 (nI n) far (nI a) (nI b) (nI (R n u a)) (nI (R n u b)) k f (mt (if dv < bb then some dv else some bb)) (nI (v + 1)) of1 at1 = _ := h2
                  rw [if_pos (show dv < bb by omega)] at h2
                  rw [if_pos c1, if_neg (nH (by omega) (by omega))]
                  exact h2
                · rw [if_neg c1]
                  exact skip (by unfold tm; rw [if_neg (fun z => c1 z.2.1)]) of1 at1
              · rw [if_neg c2]
                exact skip (by unfold tm; rw [if_neg (fun z => c2 z.2.2)]) of1 at1
    · rw [hM.2 v hvn (by omega), if_pos (show (-1 : Int32) ≤ 0 by decide)]
      exact skip (by unfold tm; rw [if_neg (fun z => by omega)]) of at0
theorem trade_eq {n sg u : Nat} {fl ht : Nat → Nat} {fk fc ff fh st of at0 flash far line hates smo sfi squ amo afi aqu : Nat → Int32} {aq af sq sf : Int32}
    (hT : Tab n fk fc) (hC : Told6 n sg fl ht) (hff : ∀ a, a < n → ff a = nI (fl a)) (hfh : ∀ a, a < n → fh a = nI (ht a)) (hmf : ∀ a, a < n → flash a = nI (fl a)) (hmh : ∀ a, a < n → hates a = nI (ht a)) (hR : Row n u st) (hu : u < fac n)
    (ha : Cached n sg fl ht false af amo afi) (hs : Cached n sg fl ht true sf smo sfi) (x1 x2 x3 : Int32) :
    ∃ (U : Int32 × Int32 × Int32 × Int32 × Int32 × (Nat → Int32) × (Nat → Int32) × (Nat → Int32) × (Nat → Int32) × (Nat → Int32) × (Nat → Int32)) (W : Int32 × (Nat → Int32) × (Nat → Int32) × (Nat → Int32) × (Nat → Int32)),
      f_X6_trade 0 aq af 1 sq sf (nI n) (nI sg) (nI u) smo sfi squ (nI n) (nI (fac n)) fk fh fc ff amo afi aqu x1 x2 x3 = some U ∧ f_X7_trade (nI n) (nI sg) st far line of at0 hates flash x1 x2 x3 = some W ∧ U.1 = W.1 ∧
      Cached n sg fl ht false U.2.2.1 U.2.2.2.2.2.2.2.2.1 U.2.2.2.2.2.2.2.2.2.1 ∧ Cached n sg fl ht true U.2.2.2.2.1 U.2.2.2.2.2.1 U.2.2.2.2.2.2.1 := by
  obtain ⟨hn, -⟩ := id hC
  have h720 := fac_le n hn
  have bad : (∀ y, f_X7_in x3 0 1 = some y → y = 0) ∨ f_X7_isOne (nI n) x1 = some 0 ∨ f_X7_isOne (nI n) x2 = some 0 ∨ x1 = x2 → f_X7_trade (nI n) (nI sg) st far line of at0 hates flash x1 x2 x3 = some (-1, far, line, of, at0) := by
    intro hb
    unfold f_X7_trade
    rcases asked n hn x1 with ⟨-, -, o1, -⟩ | ⟨a, -, -, -, -, o1⟩
    · rw [o1, bs, if_pos rfl]
    · rw [o1, bs, if_neg (show ¬ (1 : Int32) = 0 by decide)]
      rcases asked n hn x2 with ⟨-, -, o2, -⟩ | ⟨b, -, -, -, -, o2⟩
      · rw [o2, bs, if_pos rfl]
      · rw [o2, bs, if_neg (show ¬ (1 : Int32) = 0 by decide)]
        by_cases e : x1 = x2
        · rw [if_pos e]
        · rw [if_neg e]
          rcases hb with z | z | z | z
          · rcases zo x3 with ⟨-, j, -⟩ | ⟨-, j, -⟩
            · exact absurd (z 1 j) (by decide)
            · rw [j, bs, if_pos rfl]
          · rw [o1] at z; exact absurd (Option.some.inj z) (by decide)
          · rw [o2] at z; exact absurd (Option.some.inj z) (by decide)
          · exact absurd z e
  have nay : f_X6_trade 0 aq af 1 sq sf (nI n) (nI sg) (nI u) smo sfi squ (nI n) (nI (fac n)) fk fh fc ff amo afi aqu x1 x2 x3 = some (-1, aq, af, sq, sf, smo, sfi, squ, amo, afi, aqu) → f_X7_trade (nI n) (nI sg) st far line of at0 hates flash x1 x2 x3 = some (-1, far, line, of, at0) → ∃ (U : Int32 × Int32 × Int32 × Int32 × Int32 × (Nat → Int32) × (Nat → Int32) × (Nat → Int32) × (Nat → Int32) × (Nat → Int32) × (Nat → Int32)) (W : Int32 × (Nat → Int32) × (Nat → Int32) × (Nat → Int32) × (Nat → Int32)),
      f_X6_trade 0 aq af 1 sq sf (nI n) (nI sg) (nI u) smo sfi squ (nI n) (nI (fac n)) fk fh fc ff amo afi aqu x1 x2 x3 = some U ∧ f_X7_trade (nI n) (nI sg) st far line of at0 hates flash x1 x2 x3 = some W ∧ U.1 = W.1 ∧
      Cached n sg fl ht false U.2.2.1 U.2.2.2.2.2.2.2.2.1 U.2.2.2.2.2.2.2.2.2.1 ∧ Cached n sg fl ht true U.2.2.2.2.1 U.2.2.2.2.2.1 U.2.2.2.2.2.2.1 := fun h1 h2 =>
    ⟨(-1, aq, af, sq, sf, smo, sfi, squ, amo, afi, aqu), (-1, far, line, of, at0), h1, h2, rfl, ha, hs⟩
  -- the reference's answer, where it is asked well
  have good : ∀ (safe : Bool) (mo fi : Nat → Int32) (a b : Nat), x3 = (if safe = true then 1 else 0) → a < n → b < n → a ≠ b → x1 = nI a → x2 = nI b → Found n sg fl ht safe u mo fi → ∃ far' line' of' at', f_X7_trade (nI n) (nI sg) st far line of at0 hates flash x1 x2 x3 = some (mt (bt (tm n sg fl ht safe u a b) (fac n)), far', line', of', at') := by
    intro safe mo fi a b h3 hab1 hb1 hab e1 e2 hF
    have o1 : f_X7_isOne (nI n) x1 = some 1 := by rw [e1]; exact isOne_in hab1 hn
    have o2 : f_X7_isOne (nI n) x2 = some 1 := by rw [e2]; exact isOne_in hb1 hn
    have j : f_X7_in x3 0 1 = some 1 := by rw [h3]; cases safe <;> decide
    obtain ⟨far', line', of', at', g1, g2⟩ := findFar_m (far := far) (line := line) (of := of) (at0 := at0) (safe := safe) hC hmf hmh hu
    rw [← h3] at g2
    obtain ⟨y, of2, at2, l1⟩ := trade_m (k := fun y30 y31 y32 y33 => some (y30, far', line', y32, y33)) hC hu hF g1 hab1 hb1 hab 720 FU 0 of' at' (by omega) (by show _ < 4096; omega)
    have hst : bt (tm n sg fl ht safe u a b) 720 = bt (tm n sg fl ht safe u a b) (fac n) := by
      have := bt_stay (V := tm n sg fl ht safe u a b) (m := fac n) (fun k hk => by unfold tm; rw [if_neg (fun z => by omega)]) (720 - fac n)
      rw [show fac n + (720 - fac n) = 720 by omega] at this
      exact this
    rw [hst] at l1
    refine ⟨far', line', of2, at2, ?_⟩
    unfold f_X7_trade
    rw [o1, bs, if_neg (show ¬ (1 : Int32) = 0 by decide), o2, bs, if_neg (show ¬ (1 : Int32) = 0 by decide), e1, e2, if_neg (show ¬ nI a = nI b from fun z => hab ((nI_eq (by omega) (by omega)).mp z)), j, bs, if_neg (show ¬ (1 : Int32) = 0 by decide), rockOf_m (N := 100) hR (by omega) (by omega) hn hu hab1, bs, rockOf_m (N := 100) hR (by omega) (by omega) hn hu hb1, bs, wayOf_m (N := 100) hR (by omega) (by omega) hn hu, bs, g2, bs]
    exact l1
  rcases zo x3 with ⟨-, j, z3⟩ | ⟨-, j, n0, n1⟩
  · rcases asked n hn x1 with ⟨k1, -, o1, -⟩ | ⟨a, ha1, e1, k1, -, o1⟩
    · refine nay ?_ (bad (Or.inr (Or.inl o1)))
      unfold f_X6_trade
      rcases z3 with rfl | rfl
      · rw [show f_X6_searchOf 0 = some 0 from rfl, bs, if_pos rfl, k1, bs, if_pos rfl]
      · rw [show f_X6_searchOf 1 = some 1 from rfl, bs, if_neg (show ¬ (1 : Nat) = 0 by decide), if_pos rfl, k1, bs, if_pos rfl]
    · rcases asked n hn x2 with ⟨k2, -, o2, -⟩ | ⟨b, hb1, e2, k2, -, o2⟩
      · refine nay ?_ (bad (Or.inr (Or.inr (Or.inl o2))))
        unfold f_X6_trade
        rcases z3 with rfl | rfl
        · rw [show f_X6_searchOf 0 = some 0 from rfl, bs, if_pos rfl, k1, bs, if_neg (show ¬ (1 : Int32) = 0 by decide), k2, bs, if_pos rfl]
        · rw [show f_X6_searchOf 1 = some 1 from rfl, bs, if_neg (show ¬ (1 : Nat) = 0 by decide), if_pos rfl, k1, bs, if_neg (show ¬ (1 : Int32) = 0 by decide), k2, bs, if_pos rfl]
      · by_cases hab : a = b
        · have e12 : x1 = x2 := by rw [e1, e2, hab]
          refine nay ?_ (bad (Or.inr (Or.inr (Or.inr e12))))
          unfold f_X6_trade
          rcases z3 with rfl | rfl
          · rw [show f_X6_searchOf 0 = some 0 from rfl, bs, if_pos rfl, k1, bs, if_neg (show ¬ (1 : Int32) = 0 by decide), k2, bs, if_neg (show ¬ (1 : Int32) = 0 by decide), if_pos e12]
          · rw [show f_X6_searchOf 1 = some 1 from rfl, bs, if_neg (show ¬ (1 : Nat) = 0 by decide), if_pos rfl, k1, bs, if_neg (show ¬ (1 : Int32) = 0 by decide), k2, bs, if_neg (show ¬ (1 : Int32) = 0 by decide), if_pos e12]
        · have e12 : ¬ x1 = x2 := by rw [e1, e2]; exact fun z => hab ((nI_eq (by omega) (by omega)).mp z)
          rcases z3 with e3 | e3
          · obtain ⟨q', mo', fi', qu', g1, g2⟩ := spread_x (safe := false) (q := aq) (qu := aqu) hT hC hff hfh hu (ha u hu)
            have g2 : f_X2_spread 0 aq af amo afi aqu (nI n) (nI sg) fk fh fc ff (nI u) = some (q', nI u, mo', fi', qu') := g2
            obtain ⟨far', line', of', at', m1⟩ := good false mo' fi' a b e3 ha1 hb1 hab e1 e2 g1
            obtain ⟨y, l1⟩ := trade_L94 (k := fun y17 y18 => some (y17, q', nI u, sq, sf, smo, sfi, squ, mo', fi', qu')) hT hn hu g1 ha1 hb1 (fac n) FU 0 (by omega) (by show _ < 4096; omega)
            refine ⟨(mt (bt (tm n sg fl ht false u a b) (fac n)), q', nI u, sq, sf, smo, sfi, squ, mo', fi', qu'), _, ?_, m1, rfl, cached_at hn hu g1, hs⟩
            unfold f_X6_trade
            rw [e3, show f_X6_searchOf 0 = some 0 from rfl, bs, if_pos rfl, k1, bs, if_neg (show ¬ (1 : Int32) = 0 by decide), k2, bs, if_neg (show ¬ (1 : Int32) = 0 by decide), if_neg e12, g2, bs, e1, e2, rockOf_x hT hn hu ha1, bs, rockOf_x hT hn hu hb1, bs]
            exact l1
          · obtain ⟨q', mo', fi', qu', g1, g2⟩ := spread_x (safe := true) (q := sq) (qu := squ) hT hC hff hfh hu (hs u hu)
            have g2 : f_X2_spread 1 sq sf smo sfi squ (nI n) (nI sg) fk fh fc ff (nI u) = some (q', nI u, mo', fi', qu') := g2
            obtain ⟨far', line', of', at', m1⟩ := good true mo' fi' a b e3 ha1 hb1 hab e1 e2 g1
            obtain ⟨y, l1⟩ := trade_L94a (k := fun y17 y18 => some (y17, aq, af, q', nI u, mo', fi', qu', amo, afi, aqu)) hT hn hu g1 ha1 hb1 (fac n) FU 0 (by omega) (by show _ < 4096; omega)
            refine ⟨(mt (bt (tm n sg fl ht true u a b) (fac n)), aq, af, q', nI u, mo', fi', qu', amo, afi, aqu), _, ?_, m1, rfl, ha, cached_at hn hu g1⟩
            unfold f_X6_trade
            rw [e3, show f_X6_searchOf 1 = some 1 from rfl, bs, if_neg (show ¬ (1 : Nat) = 0 by decide), if_pos rfl, k1, bs, if_neg (show ¬ (1 : Int32) = 0 by decide), k2, bs, if_neg (show ¬ (1 : Int32) = 0 by decide), if_neg e12, g2, bs, e1, e2, rockOf_x hT hn hu ha1, bs, rockOf_x hT hn hu hb1, bs]
            exact l1
  · refine nay ?_ (bad (Or.inl (fun y hy => by rw [j] at hy; exact (Option.some.inj hy).symm)))
    unfold f_X6_trade f_X6_searchOf
    rw [if_neg n0, if_neg n1, bs, if_neg (show ¬ (2 : Nat) = 0 by decide), if_neg (show ¬ (2 : Nat) = 1 by decide)]
