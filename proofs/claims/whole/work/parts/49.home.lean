/-! ===== 49.home: the way home, of the class and of the reference ===== -/
section BR
variable (C : Nat) (ok : Nat → Nat → Bool) (af : Nat → Nat → Nat) (sf : Nat → Bool)
theorem SW_rev2 (D : Nat → Prop) (hD : ∀ u c v, D u → Edge C ok af sf u c v → D v) (hback : ∀ u c v, D u → Edge C ok af sf u c v → sf u = true → Edge C ok af sf v c u) : ∀ {k a b : Nat}, D a → sf a = true → SW C ok af sf k a b → SW C ok af sf k b a
  | 0, a, b, _, _, h => by cases h; rfl
  | k + 1, a, b, da, ha, ⟨c, u, h1, h2⟩ => SW_snoc C ok af sf (SW_rev2 D hD hback (hD a c u da h1) h1.2.2.2.2 h2) (hback a c u da h1 ha)
theorem RC_sf {s k v c : Nat} (h : RC C ok af sf s k v c) : sf v = true := by
  cases k with
  | zero => exact h.2.2.2.2
  | succ k =>
    obtain ⟨u, c', -, h2⟩ := h
    exact h2.2.2.2.2
end BR
def vh (n sg : Nat) (fl ht : Nat → Nat) (safe : Bool) (u c : Nat) : Option Nat := if c < CH n ∧ okf n ht u c = true ∧ sff n sg fl safe (AF n u c) = true then ((BE n sg fl ht safe 0).1 (AF n u c)).map (fun e => e + 1) else none
def bm (V : Nat → Option Nat) : Nat → Option (Nat × Nat)
  | 0 => none
  | k + 1 => match V (31 - k) with
    | none => bm V k
    | some v => match bm V k with
      | none => some (v, 31 - k)
      | some p => if p.1 < v then some p else some (v, 31 - k)
theorem bm_spec (V : Nat → Option Nat) : ∀ k : Nat, k ≤ 32 → match bm V k with
    | none => ∀ c, 32 - k ≤ c → c < 32 → V c = none
    | some p => V p.2 = some p.1 ∧ 32 - k ≤ p.2 ∧ p.2 < 32 ∧ ∀ c v, 32 - k ≤ c → c < 32 → V c = some v → p.1 ≤ v ∧ (p.1 = v → p.2 ≤ c)
  | 0, _ => fun c h1 h2 => by omega
  | k + 1, hk => by
    have ih := bm_spec V k (by omega)
    unfold bm
    cases hv : V (31 - k) with
    | none =>
      show match bm V k with
        | none => ∀ c, 32 - (k + 1) ≤ c → c < 32 → V c = none
        | some p => V p.2 = some p.1 ∧ 32 - (k + 1) ≤ p.2 ∧ p.2 < 32 ∧ ∀ c v, 32 - (k + 1) ≤ c → c < 32 → V c = some v → p.1 ≤ v ∧ (p.1 = v → p.2 ≤ c)
      cases hb : bm V k with
      | none =>
        rw [hb] at ih
        intro c h1 h2
        by_cases e : c = 31 - k
        · rw [e]; exact hv
        · exact ih c (by omega) h2
      | some p =>
        rw [hb] at ih
        obtain ⟨i1, i2, i3, i4⟩ := ih
        refine ⟨i1, by omega, i3, fun c v h1 h2 h3 => ?_⟩
        by_cases e : c = 31 - k
        · rw [e, hv] at h3; cases h3
        · exact i4 c v (by omega) h2 h3
    | some v =>
      cases hb : bm V k with
      | none =>
        rw [hb] at ih
        refine ⟨hv, by show 32 - (k + 1) ≤ 31 - k; omega, by show 31 - k < 32; omega, fun c v' h1 h2 h3 => ?_⟩
        by_cases e : c = 31 - k
        · rw [e, hv] at h3
          have : v = v' := by cases h3; rfl
          exact ⟨by show v ≤ v'; omega, fun _ => by show 31 - k ≤ c; omega⟩
        · rw [ih c (by omega) h2] at h3; cases h3
      | some p =>
        rw [hb] at ih
        obtain ⟨i1, i2, i3, i4⟩ := ih
        show match (if p.1 < v then some p else some (v, 31 - k)) with
          | none => ∀ c, 32 - (k + 1) ≤ c → c < 32 → V c = none
          | some p => V p.2 = some p.1 ∧ 32 - (k + 1) ≤ p.2 ∧ p.2 < 32 ∧ ∀ c v, 32 - (k + 1) ≤ c → c < 32 → V c = some v → p.1 ≤ v ∧ (p.1 = v → p.2 ≤ c)
        by_cases q : p.1 < v
        · rw [if_pos q]
          refine ⟨i1, by omega, i3, fun c v' h1 h2 h3 => ?_⟩
          by_cases e : c = 31 - k
          · rw [e, hv] at h3
            have : v = v' := by cases h3; rfl
            exact ⟨by omega, fun z => by omega⟩
          · exact i4 c v' (by omega) h2 h3
        · rw [if_neg q]
          refine ⟨hv, by show 32 - (k + 1) ≤ 31 - k; omega, by show 31 - k < 32; omega, fun c v' h1 h2 h3 => ?_⟩
          by_cases e : c = 31 - k
          · rw [e, hv] at h3
            have : v = v' := by cases h3; rfl
            exact ⟨by show v ≤ v'; omega, fun _ => by show 31 - k ≤ c; omega⟩
          · have := i4 c v' (by omega) h2 h3
            exact ⟨by show v ≤ v'; omega, fun _ => by show 31 - k ≤ c; omega⟩
/-- the fewest steps home from u, and the least first of so few, out of the search that starts from home -/
theorem home_far {n sg u : Nat} {fl ht : Nat → Nat} {safe : Bool} (hC : Told6 n sg fl ht) (hu : u < fac n) (hu0 : u ≠ 0) (h0 : sff n sg fl safe 0 = true) :
    bm (vh n sg fl ht safe u) 32 = ((BE n sg fl ht safe u).1 0).map (fun d => (d, (BE n sg fl ht safe u).2.1 0)) ∧ (BE n sg fl ht safe u).1 0 ≠ some 0 := by
  obtain ⟨hn, hsg, hfl, hht, hsym⟩ := hC
  have hCl := CH_le n hn
  obtain ⟨u1, u2, u3⟩ := b_end (CH n) (okf n ht) (AF n) (sff n sg fl safe) (F := fun _ => 0) (Q := fun _ => 0) hu hCl.2 (af_ok n hn) (BE n sg fl ht safe u) rfl
  obtain ⟨z1, z2, z3⟩ := b_end (CH n) (okf n ht) (AF n) (sff n sg fl safe) (F := fun _ => 0) (Q := fun _ => 0) (fac_pos n hn) hCl.2 (af_ok n hn) (BE n sg fl ht safe 0) rfl
  have rev : ∀ {k a b : Nat}, a < fac n → sff n sg fl safe a = true → SW (CH n) (okf n ht) (AF n) (sff n sg fl safe) k a b → SW (CH n) (okf n ht) (AF n) (sff n sg fl safe) k b a := fun ha hs h =>
    SW_rev2 (CH n) (okf n ht) (AF n) (sff n sg fl safe) (fun a => a < fac n) (fun a c v ha he => by rw [← he.2.2.2.1]; exact AF_lt hn ha) (fun a c v ha he hsa => ⟨he.1, he.2.1, by rw [← he.2.2.2.1]; exact AL_back hn ha he.2.1 hsym he.2.2.1, by rw [← he.2.2.2.1]; exact AF_AF hn ha he.2.1 (AL_spec.mp he.2.2.1).1, hsa⟩) ha hs h
  have hne : (BE n sg fl ht safe u).1 0 ≠ some 0 := fun z => hu0 (u2.2 0 z).symm
  have up : ∀ c e, 1 ≤ c → c < CH n → okf n ht u c = true → sff n sg fl safe (AF n u c) = true → (BE n sg fl ht safe 0).1 (AF n u c) = some e → ∃ d, (BE n sg fl ht safe u).1 0 = some d ∧ d ≤ e + 1 ∧ (d = e + 1 → (BE n sg fl ht safe u).2.1 0 ≤ c) := by
    intro c e h1 h2 h3 h4 h5
    have he : Edge (CH n) (okf n ht) (AF n) (sff n sg fl safe) u c (AF n u c) := ⟨h1, h2, h3, rfl, h4⟩
    cases e with
    | zero =>
      have e0 := z2.2 _ h5
      rw [e0] at he
      exact u3 0 0 c he
    | succ e =>
      obtain ⟨t1, g1, g2⟩ := RC_SW (CH n) (okf n ht) (AF n) (sff n sg fl safe) (z1 _ e h5)
      have g3 : SW (CH n) (okf n ht) (AF n) (sff n sg fl safe) (e + 1) 0 (AF n u c) := ⟨_, t1, g1, g2⟩
      have g4 := SW_RC (CH n) (okf n ht) (AF n) (sff n sg fl safe) (k := e + 1) (j := 0) he (rev (fac_pos n hn) h0 g3)
      obtain ⟨d, d1, d2, d3⟩ := u3 _ _ _ g4
      exact ⟨d, d1, by omega, fun z => d3 (by omega)⟩
  have zr : ∀ e, (BE n sg fl ht safe 0).1 u = some e → ∃ d, (BE n sg fl ht safe u).1 0 = some d ∧ d ≤ e := by
    intro e h5
    cases e with
    | zero => exact absurd (z2.2 _ h5) hu0
    | succ e =>
      obtain ⟨t1, g1, g2⟩ := RC_SW (CH n) (okf n ht) (AF n) (sff n sg fl safe) (z1 _ e h5)
      have g3 : SW (CH n) (okf n ht) (AF n) (sff n sg fl safe) (e + 1) 0 u := ⟨_, t1, g1, g2⟩
      obtain ⟨c2, t2, q1, q2⟩ := rev (fac_pos n hn) h0 g3
      have g4 := SW_RC (CH n) (okf n ht) (AF n) (sff n sg fl safe) (s := u) (c := c2) (k := e) (j := 0) q1 q2
      obtain ⟨d, d1, d2, d3⟩ := u3 _ _ _ g4
      exact ⟨d, d1, by omega⟩
  have down : ∀ d, (BE n sg fl ht safe u).1 0 = some d → ∃ v, vh n sg fl ht safe u ((BE n sg fl ht safe u).2.1 0) = some v ∧ v ≤ d ∧ (BE n sg fl ht safe u).2.1 0 < 32 := by
    intro d hd
    cases d with
    | zero => exact absurd hd hne
    | succ d =>
      obtain ⟨t, g1, g2⟩ := RC_SW (CH n) (okf n ht) (AF n) (sff n sg fl safe) (u1 _ d hd)
      have ht' : t < fac n := by rw [← g1.2.2.2.1]; exact AF_lt hn hu
      have g3 := rev ht' g1.2.2.2.2 g2
      have key : ∃ e, (BE n sg fl ht safe 0).1 t = some e ∧ e ≤ d := by
        cases d with
        | zero =>
          have e0 : 0 = t := g3
          exact ⟨0, by rw [← e0]; exact z2.1, by omega⟩
        | succ d =>
          obtain ⟨c2, t2, q1, q2⟩ := g3
          have g4 := SW_RC (CH n) (okf n ht) (AF n) (sff n sg fl safe) (s := 0) (c := c2) (k := d) (j := 0) q1 q2
          obtain ⟨e, e1, e2, -⟩ := z3 _ _ _ g4
          exact ⟨e, e1, by omega⟩
      obtain ⟨e, e1, e2⟩ := key
      refine ⟨e + 1, ?_, by omega, by have := g1.2.1; omega⟩
      unfold vh
      rw [if_pos ⟨g1.2.1, g1.2.2.1, by rw [g1.2.2.2.1]; exact g1.2.2.2.2⟩, g1.2.2.2.1, e1]
      rfl
  have any : ∀ c v, vh n sg fl ht safe u c = some v → ∃ d, (BE n sg fl ht safe u).1 0 = some d ∧ d ≤ v ∧ (d = v → (BE n sg fl ht safe u).2.1 0 ≤ c) := by
    intro c v hv
    unfold vh at hv
    split at hv
    · rename_i hc
      cases e : (BE n sg fl ht safe 0).1 (AF n u c) with
      | none => rw [e] at hv; cases hv
      | some e' =>
        rw [e] at hv
        have hv : e' + 1 = v := by cases hv; rfl
        rcases Nat.eq_zero_or_pos c with z | z
        · subst z
          rw [AF_0] at e
          obtain ⟨d, d1, d2⟩ := zr e' e
          exact ⟨d, d1, by omega, fun z => by omega⟩
        · obtain ⟨d, d1, d2, d3⟩ := up c e' z hc.1 hc.2.1 hc.2.2 e
          exact ⟨d, d1, by omega, fun z => d3 (by omega)⟩
    · cases hv
  refine ⟨?_, hne⟩
  have sp := bm_spec (vh n sg fl ht safe u) 32 (Nat.le_refl _)
  cases hb : bm (vh n sg fl ht safe u) 32 with
  | none =>
    rw [hb] at sp
    cases hd : (BE n sg fl ht safe u).1 0 with
    | none => rfl
    | some d =>
      obtain ⟨v, v1, v2, v3⟩ := down d hd
      rw [sp _ (by omega) v3] at v1
      cases v1
  | some p =>
    rw [hb] at sp
    obtain ⟨p1, p2, p3, p4⟩ := sp
    obtain ⟨d, d1, d2, d3⟩ := any _ _ p1
    obtain ⟨v, v1, v2, v3⟩ := down d d1
    have q := p4 _ _ (by omega) v3 v1
    have e1 : p.1 = d := by omega
    have e2 : p.2 = (BE n sg fl ht safe u).2.1 0 := Nat.le_antisymm (q.2 (by omega)) (d3 e1.symm)
    rw [d1]
    show some p = some (d, (BE n sg fl ht safe u).2.1 0)
    rw [← e1, ← e2]
theorem home_none {n sg u : Nat} {fl ht : Nat → Nat} {safe : Bool} (hC : Told6 n sg fl ht) (hu : u < fac n) (hu0 : u ≠ 0) (h0 : sff n sg fl safe 0 = false) : (BE n sg fl ht safe u).1 0 = none := by
  obtain ⟨hn, hsg, hfl, hht, hsym⟩ := hC
  have hCl := CH_le n hn
  obtain ⟨u1, u2, u3⟩ := b_end (CH n) (okf n ht) (AF n) (sff n sg fl safe) (F := fun _ => 0) (Q := fun _ => 0) hu hCl.2 (af_ok n hn) (BE n sg fl ht safe u) rfl
  cases hd : (BE n sg fl ht safe u).1 0 with
  | none => rfl
  | some d =>
    cases d with
    | zero => exact absurd (u2.2 _ hd).symm hu0
    | succ d =>
      have := RC_sf (CH n) (okf n ht) (AF n) (sff n sg fl safe) (u1 _ d hd)
      rw [h0] at this
      cases this
theorem home_self {n sg u : Nat} {fl ht : Nat → Nat} {safe : Bool} (hC : Told6 n sg fl ht) (hu : u < fac n) : (BE n sg fl ht safe u).1 u = some 0 := by
  obtain ⟨hn, hsg, hfl, hht, hsym⟩ := hC
  have hCl := CH_le n hn
  exact (b_end (CH n) (okf n ht) (AF n) (sff n sg fl safe) (F := fun _ => 0) (Q := fun _ => 0) hu hCl.2 (af_ok n hn) (BE n sg fl ht safe u) rfl).2.1.1
-- the reference's own loops
theorem asIs_loop {st : Nat → Int32} {k : Int32 → (Nat → Int32) → Option (Nat → Int32)} : ∀ (d f j : Nat) (a : Nat → Int32), 6 = j + d → d < f → (∀ i, i < j → a i = st i) → ∃ y a', (∀ i, i < 6 → a' i = st i) ∧ lp_X7_asItIs_L2 st k f (nI j) a = k y a' := by
  intro d
  induction d with
  | zero =>
    intro f j a hj hf ha
    obtain ⟨f, rfl⟩ := pred1 hf
    unfold lp_X7_asItIs_L2
    refine ⟨nI j, a, fun i hi => ha i (by omega), ?_⟩
    rw [if_pos (show (6 : Int32) ≤ nI j from nI_le (a := 6) (by omega) (by omega))]
  | succ d ih =>
    intro f j a hj hf ha
    obtain ⟨f, rfl⟩ := pred1 (Nat.lt_of_le_of_lt (Nat.zero_le _) hf)
    unfold lp_X7_asItIs_L2
    rw [if_neg (show ¬ (6 : Int32) ≤ nI j from nI_ge (b := 6) (by omega) (by omega)), if_neg (nG (by omega) (by omega)), if_neg (nG (by omega) (by omega)), nC (by omega), nI_1]
    refine ih f (j + 1) _ (by omega) (by omega) (fun i hi => ?_)
    by_cases e : i = j
    · subst e; rw [pk_us]
    · rw [pk_un e]; exact ha i (by omega)
theorem asIs_m {n w : Nat} {st at0 : Nat → Int32} (hR : Row n w st) (hn : n < 7) : ∃ at', Row n w at' ∧ f_X7_asItIs at0 st = some at' := by
  unfold f_X7_asItIs
  obtain ⟨y, a, h1, h2⟩ := asIs_loop (st := st) (k := fun _ y5 => some y5) 6 FU 0 at0 (by omega) (by show _ < 4096; omega) (fun i hi => by omega)
  exact ⟨a, fun r hr => by rw [h1 r (by omega)]; exact hR r hr, h2⟩
def hmB (n w : Nat) : Nat → Bool
  | 0 => true
  | i + 1 => hmB n w i && P n w i == i
theorem areHome_loop {n w : Nat} {st : Nat → Int32} {k : Int32 → Int32 → Option Int32} (hR : Row n w st) (hn : n < 7) (hw : w < fac n) :
    ∀ (d f i : Nat), n = i + d → d < f → ∃ y, lp_X7_areHome_L4 (nI n) st k f (if hmB n w i = true then 1 else 0) (nI i) = k (if hmB n w n = true then 1 else 0) y := by
  intro d
  induction d with
  | zero =>
    intro f i hi hf
    obtain ⟨f, rfl⟩ := pred1 hf
    unfold lp_X7_areHome_L4
    exact ⟨nI i, by rw [if_pos (nI_le (by omega) (by omega)), show i = n by omega]⟩
  | succ d ih =>
    intro f i hi hf
    obtain ⟨f, rfl⟩ := pred1 (Nat.lt_of_le_of_lt (Nat.zero_le _) hf)
    have hp := P_lt hn hw (r := i) (by omega)
    obtain ⟨y, h⟩ := ih f (i + 1) (by omega) (by omega)
    refine ⟨y, ?_⟩
    unfold lp_X7_areHome_L4
    rw [if_neg (nI_ge (by omega) (by omega)), nI_1]
    cases hb : hmB n w i
    · have e : hmB n w (i + 1) = false := by show (hmB n w i && _) = false; rw [hb]; rfl
      rw [e] at h
      rw [if_neg (show ¬ (false = true) by decide), if_pos rfl]
      exact h
    · rw [if_pos (show true = true from rfl), if_neg (show ¬ (1 : Int32) = 0 by decide), if_neg (nG (by omega) (by omega)), nC (by omega), hR i (by omega), ifEq (by omega) (by omega)]
      by_cases q : P n w i = i
      · have e : hmB n w (i + 1) = true := by show (hmB n w i && _) = true; rw [hb, q]; simp
        rw [e] at h
        rw [if_pos q]
        exact h
      · have e : hmB n w (i + 1) = false := by show (hmB n w i && (P n w i == i)) = false; rw [hb]; simp [q]
        rw [e] at h
        rw [if_neg q]
        exact h
theorem hmB_all {n w : Nat} : ∀ i : Nat, hmB n w i = true ↔ ∀ r, r < i → P n w r = r
  | 0 => ⟨fun _ r hr => by omega, fun _ => rfl⟩
  | i + 1 => by
    have ih := hmB_all (n := n) (w := w) i
    show (hmB n w i && (P n w i == i)) = true ↔ _
    rw [Bool.and_eq_true, ih, beq_iff_eq]
    constructor
    · rintro ⟨h1, h2⟩ r hr
      by_cases e : r = i
      · rw [e]; exact h2
      · exact h1 r (by omega)
    · intro h
      exact ⟨fun r hr => h r (by omega), h i (by omega)⟩
theorem areHome_m {n w : Nat} {st : Nat → Int32} (hR : Row n w st) (hn : n < 7) (hw : w < fac n) : f_X7_areHome (nI n) st = some (if w = 0 then 1 else 0) := by
  unfold f_X7_areHome
  obtain ⟨y, h⟩ := areHome_loop (k := fun y5 _ => if ¬ (y5 = 0 ∨ y5 = 1) then none else some y5) hR hn hw n FU 0 (by omega) (by show _ < 4096; omega)
  have e : (hmB n w n = true) ↔ w = 0 := by
    rw [hmB_all]
    exact ⟨fun h => home_w hn hw h, fun h r hr => by rw [h]; exact P_home n hn r hr⟩
  have h : lp_X7_areHome_L4 (nI n) st (fun y5 _ => if ¬ (y5 = 0 ∨ y5 = 1) then none else some y5) FU 1 0 = _ := h
  rw [h]
  by_cases z : w = 0
  · rw [if_pos (e.mpr z), if_pos z]; rfl
  · rw [if_neg (fun y => z (e.mp y)), if_neg z]; rfl
def en1 : Option (Nat × Nat) → Int32
  | none => -9
  | some p => nI p.1
def en2 : Option (Nat × Nat) → Int32
  | none => -9
  | some p => nI p.2
theorem vh_le {n sg u c v : Nat} {fl ht : Nat → Nat} {safe : Bool} {far : Nat → Int32} (hn : n < 7) (hu : u < fac n) (hF : FoundM n sg fl ht safe 0 far) (h : vh n sg fl ht safe u c = some v) : v ≤ 721 := by
  unfold vh at h
  split at h
  · have := hF.1 (AF n u c) (AF_lt hn hu)
    cases e : (BE n sg fl ht safe 0).1 (AF n u c) with
    | none => rw [e] at h; cases h
    | some d =>
      rw [e] at h this
      have h : d + 1 = v := by cases h; rfl
      have := this.2
      omega
  · cases h
theorem home_loop {n sg u : Nat} {fl ht : Nat → Nat} {safe : Bool} {flash hates st far : Nat → Int32} {k : Int32 → Int32 → Int32 → (Nat → Int32) → Option (Int32 × (Nat → Int32) × (Nat → Int32) × (Nat → Int32) × (Nat → Int32))}
    (hC : Told6 n sg fl ht) (hff : ∀ a, a < n → flash a = nI (fl a)) (hfh : ∀ a, a < n → hates a = nI (ht a)) (hR : Row n u st) (hu : u < fac n) (hF : FoundM n sg fl ht safe 0 far) :
    ∀ (d f : Nat) (at0 : Nat → Int32), d ≤ 32 → d < f → ∃ y at', lp_X7_homeward_L71 (nI n) (nI sg) st flash far hates (if safe = true then 1 else 0) k f (en1 (bm (vh n sg fl ht safe u) (32 - d))) (en2 (bm (vh n sg fl ht safe u) (32 - d))) (nI d - 1) at0 = k (en1 (bm (vh n sg fl ht safe u) 32)) (en2 (bm (vh n sg fl ht safe u) 32)) y at' := by
  obtain ⟨hn, hsg, hfl, hht, hsym⟩ := id hC
  have h720 := fac_le n hn
  intro d
  induction d with
  | zero =>
    intro f at0 hd hf
    obtain ⟨f, rfl⟩ := pred1 hf
    unfold lp_X7_homeward_L71
    exact ⟨nI 0 - 1, at0, by rw [if_pos (show nI 0 - 1 < 0 by decide)]⟩
  | succ d ih =>
    intro f at0 hd hf
    obtain ⟨f, rfl⟩ := pred1 (Nat.lt_of_le_of_lt (Nat.zero_le _) hf)
    have m1 : ∀ r : Nat, r < 32 → nI r + (-1) = nI r - 1 := by decide +kernel
    have hk : 32 - d = 32 - (d + 1) + 1 := by omega
    have hk2 : 31 - (32 - (d + 1)) = d := by omega
    have hnx : bm (vh n sg fl ht safe u) (32 - d) = match vh n sg fl ht safe u d with
        | none => bm (vh n sg fl ht safe u) (32 - (d + 1))
        | some v => match bm (vh n sg fl ht safe u) (32 - (d + 1)) with
          | none => some (v, d)
          | some p => if p.1 < v then some p else some (v, d) := by
      rw [hk]
      show (match vh n sg fl ht safe u (31 - (32 - (d + 1))) with
        | none => bm (vh n sg fl ht safe u) (32 - (d + 1))
        | some v => match bm (vh n sg fl ht safe u) (32 - (d + 1)) with
          | none => some (v, 31 - (32 - (d + 1)))
          | some p => if p.1 < v then some p else some (v, 31 - (32 - (d + 1)))) = _
      rw [hk2]
    have sp := bm_spec (vh n sg fl ht safe u) (32 - (d + 1)) (by omega)
    obtain ⟨b, hb⟩ : ∃ b, b = bm (vh n sg fl ht safe u) (32 - (d + 1)) := ⟨_, rfl⟩
    rw [← hb] at hnx sp ⊢
    unfold lp_X7_homeward_L71
    rw [nI_pred, if_neg (nP (by omega)), isChange_m n hn d (by omega), bs, m1 d (by omega)]
    by_cases cc : d < CH n
    · rw [if_pos cc, if_neg (show ¬ (1 : Int32) = 0 by decide), may_m (N := 100) (ht := ht) hR (by omega) (by omega) hn hu (by omega) (fun a ha => ⟨hfh a ha, hht a ha⟩), bs]
      have hok : AL n (okr n u ht) d = okf n ht u d := rfl
      rw [hok]
      cases ho : okf n ht u d
      · have e : vh n sg fl ht safe u d = none := by unfold vh; rw [if_neg (by rw [ho]; simp)]
        rw [e] at hnx
        rw [if_neg (show ¬ (false = true) by decide), if_pos rfl]
        have := ih f at0 (by omega) (by omega)
        rw [hnx] at this
        exact this
      · obtain ⟨at1, a1, a2⟩ := asIs_m (at0 := at0) hR hn
        obtain ⟨row2, b1, -, b2⟩ := chg_m (N := 6) a1 (by omega) (by omega) hn hu (show d < 32 by omega)
        have hv : AF n u d < fac n := AF_lt hn hu
        have ihr := ih f row2 (by omega) (by omega)
        rw [if_pos (show true = true from rfl), if_neg (show ¬ (1 : Int32) = 0 by decide), a2, bs, b2, bs, wayOf_m (N := 6) b1 (by omega) (by omega) hn hv, bs, if_neg (nG (by omega) (by omega)), nC (by omega : AF n u d < 2 ^ 31)]
        have hfv := hF.1 _ hv
        cases ev : (BE n sg fl ht safe 0).1 (AF n u d) with
        | none =>
          rw [ev] at hfv
          have hfv : far (AF n u d) = -1 := hfv
          have e : vh n sg fl ht safe u d = none := by unfold vh; rw [ev]; split <;> rfl
          rw [e] at hnx
          rw [hfv, if_pos (show (-1 : Int32) < 0 by decide)]
          rw [hnx] at ihr
          exact ihr
        | some e' =>
          rw [ev] at hfv
          obtain ⟨g1, g2⟩ := hfv
          rw [g1, if_neg (nP (by omega)), safe_m b1 hn hv hsg hff (fun a ha => (hfl a ha).2), bs]
          cases es : sff n sg fl safe (AF n u d) with
          | false =>
            have e : vh n sg fl ht safe u d = none := by unfold vh; rw [if_neg (by rw [es]; simp)]
            rw [e] at hnx
            rw [if_neg (show ¬ (false = true) by decide), if_pos rfl]
            rw [hnx] at ihr
            exact ihr
          | true =>
            have e : vh n sg fl ht safe u d = some (e' + 1) := by unfold vh; rw [if_pos ⟨cc, ho, es⟩, ev]; rfl
            rw [e] at hnx
            rw [if_pos (show true = true from rfl), if_neg (show ¬ (1 : Int32) = 0 by decide), nA1 e']
            cases b with
            | none =>
              have hnx : bm (vh n sg fl ht safe u) (32 - d) = some (e' + 1, d) := hnx
              rw [hnx] at ihr
              rw [if_pos (show en1 none < 0 by decide)]
              exact ihr
            | some p =>
              have hnx : bm (vh n sg fl ht safe u) (32 - d) = if p.1 < e' + 1 then some p else some (e' + 1, d) := hnx
              have hp := vh_le hn hu hF sp.1
              show ∃ y at', (if nI p.1 < 0 then _ else if nI p.1 < nI (e' + 1) then _ else _) = _
              rw [if_neg (nP (by omega)), ifLt (by omega) (by omega)]
              by_cases q : p.1 < e' + 1
              · rw [if_pos q] at hnx ⊢
                rw [hnx] at ihr
                exact ihr
              · rw [if_neg q] at hnx ⊢
                rw [hnx] at ihr
                exact ihr
    · have e : vh n sg fl ht safe u d = none := by unfold vh; rw [if_neg (fun z => cc z.1)]
      rw [e] at hnx
      rw [if_neg cc, if_pos rfl]
      have := ih f at0 (by omega) (by omega)
      rw [hnx] at this
      exact this
