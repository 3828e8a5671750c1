/-! ===== 50.homeward: homeward and trade, of the class and of the reference ===== -/
def Cached (n sg : Nat) (fl ht : Nat → Nat) (safe : Bool) (fr : Int32) (mo fi : Nat → Int32) : Prop := ∀ s, s < fac n → fr = nI s → Found n sg fl ht safe s mo fi
theorem cached_at {n sg s : Nat} {fl ht : Nat → Nat} {safe : Bool} {mo fi : Nat → Int32} (hn : n < 7) (hs : s < fac n) (h : Found n sg fl ht safe s mo fi) : Cached n sg fl ht safe (nI s) mo fi := fun s' hs' e => by
  have := fac_le n hn
  rw [← show s = s' from (nI_eq (by omega) (by omega)).mp e]
  exact h
/-- moons and first step to v that the class's rows hold -/
def mt (o : Option Nat) : Int32 := match o with
  | some d => nI d
  | none => -9
theorem moonsTo_x {n sg s v : Nat} {fl ht : Nat → Nat} {safe : Bool} {mo fi : Nat → Int32} (hn : n < 7) (hv : v < fac n) (h : Found n sg fl ht safe s mo fi) : f_X2_moonsTo mo (nI v) = some (mt ((BE n sg fl ht safe s).1 v)) := by
  have h720 := fac_le n hn
  unfold f_X2_moonsTo
  rw [item_in (by omega) (by omega), bs]
  have := h v hv
  cases e : (BE n sg fl ht safe s).1 v with
  | some d =>
    rw [e] at this
    obtain ⟨g1, g2, -⟩ := this
    rw [g1, if_neg (nP (by omega))]
    rfl
  | none =>
    rw [e] at this
    have this : mo v = -9 ∨ mo v = -8 := this
    rcases this with z | z <;> rw [z] <;> rfl
theorem firstTo_x {n sg s v d : Nat} {fl ht : Nat → Nat} {safe : Bool} {mo fi : Nat → Int32} (hn : n < 7) (hv : v < fac n) (h : Found n sg fl ht safe s mo fi) (hd : (BE n sg fl ht safe s).1 v = some d) : f_X2_firstTo fi (nI v) = some (nI ((BE n sg fl ht safe s).2.1 v)) := by
  have h720 := fac_le n hn
  unfold f_X2_firstTo
  rw [item_in (by omega) (by omega), bs]
  have := h v hv
  rw [hd] at this
  rw [this.2.2.1]
def hwA (x2 : Int32) (D : Option Nat) (F : Nat) : Int32 := if x2 = 0 then mt D else if mt D ≤ 0 then -9 else nI F
theorem hw_c {α : Type} {n sg s : Nat} {fl ht : Nat → Nat} {safe : Bool} {mo fi : Nat → Int32} {x2 : Int32} (g : Int32 → α) (hn : n < 7) (h : Found n sg fl ht safe s mo fi) :
    ((f_X2_moonsTo mo 0).bind fun u5 => if x2 = 0 then some (g u5) else if u5 ≤ 0 then some (g (-9)) else (f_X2_firstTo fi 0).bind fun u8 => some (g u8)) = some (g (hwA x2 ((BE n sg fl ht safe s).1 0) ((BE n sg fl ht safe s).2.1 0))) := by
  have m1 : f_X2_moonsTo mo 0 = some (mt ((BE n sg fl ht safe s).1 0)) := moonsTo_x (v := 0) hn (fac_pos n hn) h
  rw [m1, bs]
  unfold hwA
  by_cases c : x2 = 0
  · rw [if_pos c, if_pos c]
  · rw [if_neg c, if_neg c]
    by_cases z : mt ((BE n sg fl ht safe s).1 0) ≤ 0
    · rw [if_pos z, if_pos z]
    · rw [if_neg z, if_neg z]
      cases e : (BE n sg fl ht safe s).1 0 with
      | none => rw [e] at z; exact absurd (show mt none ≤ 0 by decide) z
      | some d =>
        have f1 : f_X2_firstTo fi 0 = some (nI ((BE n sg fl ht safe s).2.1 0)) := firstTo_x (v := 0) hn (fac_pos n hn) h e
        rw [f1, bs]
theorem hw_m {n sg u : Nat} {fl ht : Nat → Nat} {safe : Bool} {st of at0 flash far line hates : Nat → Int32} {x2 : Int32} (hC : Told6 n sg fl ht) (hff : ∀ a, a < n → flash a = nI (fl a)) (hfh : ∀ a, a < n → hates a = nI (ht a)) (hR : Row n u st) (hu : u < fac n)
    (hx : f_X7_in x2 0 1 = some 1) (hi : f_X7_in (if safe = true then 1 else 0) 0 1 = some 1) :
    ∃ of' at' far' line', f_X7_homeward (nI n) (nI sg) st of at0 flash far line hates (if safe = true then 1 else 0) x2 = some (hwA x2 ((BE n sg fl ht safe u).1 0) ((BE n sg fl ht safe u).2.1 0), of', at', far', line') := by
  obtain ⟨hn, hsg, hfl, hht, hsym⟩ := id hC
  have h720 := fac_le n hn
  unfold f_X7_homeward
  rw [hi, bs, if_neg (show ¬ (1 : Int32) = 0 by decide), hx, bs, if_neg (show ¬ (1 : Int32) = 0 by decide), areHome_m hR hn hu, bs]
  by_cases hu0 : u = 0
  · subst hu0
    rw [if_pos rfl, if_neg (show ¬ (1 : Int32) = 0 by decide), home_self hC hu]
    unfold hwA
    by_cases c : x2 = 0
    · exact ⟨of, at0, far, line, by rw [if_pos c, if_pos c]; rfl⟩
    · exact ⟨of, at0, far, line, by rw [if_neg c, if_neg c, if_pos (show mt (some 0) ≤ 0 by decide)]⟩
  · rw [if_neg hu0, if_pos rfl]
    obtain ⟨of1, at1, a1, -, a2⟩ := isWay_m (f_of := of) (f_at := at0) hn (fac_pos n hn)
    have a2 : f_X7_isWay (nI n) of at0 0 = some (of1, at1) := a2
    rw [a2, bs, safe_m a1 hn (fac_pos n hn) hsg hff (fun a ha => (hfl a ha).2), bs]
    cases h0 : sff n sg fl safe 0 with
    | false =>
      rw [home_none hC hu hu0 h0, if_neg (show ¬ (false = true) by decide), if_pos rfl]
      refine ⟨of1, at1, far, line, ?_⟩
      unfold hwA
      by_cases c : x2 = 0
      · rw [if_pos c]; rfl
      · rw [if_neg c, if_pos (show mt none ≤ 0 by decide)]
    | true =>
      obtain ⟨far', line', of', at', g1, g2⟩ := findFar_m (far := far) (line := line) (of := of1) (at0 := at1) (safe := safe) hC hff hfh (fac_pos n hn)
      have g2 : f_X7_findFar (nI n) (nI sg) far line of1 at1 hates flash 0 (if safe = true then 1 else 0) = some (far', line', of', at') := g2
      rw [if_pos (show true = true from rfl), if_neg (show ¬ (1 : Int32) = 0 by decide), g2, bs]
      obtain ⟨y, at2, l1⟩ := home_loop (st := st) (safe := safe) (k := fun y25 y26 y27 y28 => if x2 = 0 then some (y25, of', y28, far', line') else some (y26, of', y28, far', line')) hC hff hfh hR hu g1 32 FU at' (Nat.le_refl _) (by show _ < 4096; omega)
      obtain ⟨hb, hne⟩ := home_far hC hu hu0 h0
      rw [Nat.sub_self, show nI 32 - 1 = 31 by decide, hb] at l1
      refine ⟨of', at2, far', line', ?_⟩
      refine (show _ = _ from l1).trans ?_
      unfold hwA
      cases e : (BE n sg fl ht safe u).1 0 with
      | none =>
        by_cases c : x2 = 0
        · rw [if_pos c, if_pos c]; rfl
        · rw [if_neg c, if_neg c, if_pos (show mt none ≤ 0 by decide)]; rfl
      | some d =>
        have hd : d ≤ 721 ∧ 0 < d := by
          constructor
          · exact vh_le (u := u) (c := (BE n sg fl ht safe u).2.1 0) (v := d) hn hu g1 (by
              have sp := bm_spec (vh n sg fl ht safe u) 32 (Nat.le_refl _)
              rw [hb, e] at sp
              exact sp.1)
          · rcases Nat.eq_zero_or_pos d with z | z
            · rw [z] at e; exact absurd e hne
            · exact z
        by_cases c : x2 = 0
        · rw [if_pos c, if_pos c]; rfl
        · rw [if_neg c, if_neg c, if_neg (show ¬ mt (some d) ≤ 0 from nI_nle (show 0 < d from hd.2) (by omega))]; rfl
theorem homeward_eq {n sg u : Nat} {fl ht : Nat → Nat} {fk fc ff fh st of at0 flash far line hates smo sfi squ amo afi aqu : Nat → Int32} {aq af sq sf : Int32}
    (hT : Tab n fk fc) (hC : Told6 n sg fl ht) (hff : ∀ a, a < n → ff a = nI (fl a)) (hfh : ∀ a, a < n → fh a = nI (ht a)) (hmf : ∀ a, a < n → flash a = nI (fl a)) (hmh : ∀ a, a < n → hates a = nI (ht a)) (hR : Row n u st) (hu : u < fac n)
    (ha : Cached n sg fl ht false af amo afi) (hs : Cached n sg fl ht true sf smo sfi) (x1 x2 : Int32) :
    ∃ (U : Int32 × Int32 × Int32 × Int32 × Int32 × (Nat → Int32) × (Nat → Int32) × (Nat → Int32) × (Nat → Int32) × (Nat → Int32) × (Nat → Int32)) (W : Int32 × (Nat → Int32) × (Nat → Int32) × (Nat → Int32) × (Nat → Int32)),
      f_X6_homeward 0 aq af 1 sq sf (nI u) smo sfi squ (nI n) (nI sg) fk fh fc ff amo afi aqu x1 x2 = some U ∧ f_X7_homeward (nI n) (nI sg) st of at0 flash far line hates x1 x2 = some W ∧ U.1 = W.1 ∧
      Cached n sg fl ht false U.2.2.1 U.2.2.2.2.2.2.2.2.1 U.2.2.2.2.2.2.2.2.2.1 ∧ Cached n sg fl ht true U.2.2.2.2.1 U.2.2.2.2.2.1 U.2.2.2.2.2.2.1 := by
  obtain ⟨hn, -⟩ := id hC
  rcases zo x1 with ⟨-, i1, z1⟩ | ⟨-, i1, n0, n1⟩
  · rcases zo x2 with ⟨j0, j1, -⟩ | ⟨j0, j1, -, -⟩
    · rcases z1 with rfl | rfl
      · obtain ⟨q', mo', fi', qu', g1, g2⟩ := spread_x (safe := false) (q := aq) (qu := aqu) hT hC hff hfh hu (ha u hu)
        have g2 : f_X2_spread 0 aq af amo afi aqu (nI n) (nI sg) fk fh fc ff (nI u) = some (q', nI u, mo', fi', qu') := g2
        obtain ⟨of', at', far', line', m1⟩ := hw_m (safe := false) (of := of) (at0 := at0) (far := far) (line := line) hC hmf hmh hR hu j1 i1
        refine ⟨(hwA x2 ((BE n sg fl ht false u).1 0) ((BE n sg fl ht false u).2.1 0), q', nI u, sq, sf, smo, sfi, squ, mo', fi', qu'), _, ?_, m1, rfl, cached_at hn hu g1, hs⟩
        unfold f_X6_homeward
        rw [show f_X6_searchOf 0 = some 0 from rfl, bs, if_pos rfl, j0, bs, if_neg (show ¬ (1 : Int32) = 0 by decide), g2, bs]
        exact hw_c (fun a => (a, q', nI u, sq, sf, smo, sfi, squ, mo', fi', qu')) hn g1
      · obtain ⟨q', mo', fi', qu', g1, g2⟩ := spread_x (safe := true) (q := sq) (qu := squ) hT hC hff hfh hu (hs u hu)
        have g2 : f_X2_spread 1 sq sf smo sfi squ (nI n) (nI sg) fk fh fc ff (nI u) = some (q', nI u, mo', fi', qu') := g2
        obtain ⟨of', at', far', line', m1⟩ := hw_m (safe := true) (of := of) (at0 := at0) (far := far) (line := line) hC hmf hmh hR hu j1 i1
        refine ⟨(hwA x2 ((BE n sg fl ht true u).1 0) ((BE n sg fl ht true u).2.1 0), aq, af, q', nI u, mo', fi', qu', amo, afi, aqu), _, ?_, m1, rfl, ha, cached_at hn hu g1⟩
        unfold f_X6_homeward
        rw [show f_X6_searchOf 1 = some 1 from rfl, bs, if_neg (show ¬ (1 : Nat) = 0 by decide), if_pos rfl, j0, bs, if_neg (show ¬ (1 : Int32) = 0 by decide), g2, bs]
        exact hw_c (fun a => (a, aq, af, q', nI u, mo', fi', qu', amo, afi, aqu)) hn g1
    · refine ⟨(-1, aq, af, sq, sf, smo, sfi, squ, amo, afi, aqu), (-1, of, at0, far, line), ?_, ?_, rfl, ha, hs⟩
      · unfold f_X6_homeward
        rcases z1 with rfl | rfl
        · rw [show f_X6_searchOf 0 = some 0 from rfl, bs, if_pos rfl, j0, bs, if_pos rfl]
        · rw [show f_X6_searchOf 1 = some 1 from rfl, bs, if_neg (show ¬ (1 : Nat) = 0 by decide), if_pos rfl, j0, bs, if_pos rfl]
      · unfold f_X7_homeward
        rw [i1, bs, if_neg (show ¬ (1 : Int32) = 0 by decide), j1, bs, if_pos rfl]
  · refine ⟨(-1, aq, af, sq, sf, smo, sfi, squ, amo, afi, aqu), (-1, of, at0, far, line), ?_, ?_, rfl, ha, hs⟩
    · unfold f_X6_homeward f_X6_searchOf
      rw [if_neg n0, if_neg n1, bs, if_neg (show ¬ (2 : Nat) = 0 by decide), if_neg (show ¬ (2 : Nat) = 1 by decide)]
    · unfold f_X7_homeward
      rw [i1, bs, if_pos rfl]
