/-! ===== 46.bfs: the fewest steps, and the least first step of so few: what a search by layers finds ===== -/
theorem pig : ∀ (N q : Nat) (f : Nat → Nat), (∀ j, j < q → f j < N) → (∀ i j, i < q → j < q → f i = f j → i = j) → q ≤ N := by
  intro N
  induction N with
  | zero =>
    intro q f h1 _
    rcases Nat.eq_zero_or_pos q with z | z
    · omega
    · exact absurd (h1 0 z) (by omega)
  | succ N ih =>
    intro q f h1 h2
    by_cases hx : ∃ j0, j0 < q ∧ f j0 = N
    · obtain ⟨j0, hj, e⟩ := hx
      have := ih (q - 1) (fun j => f (if j < j0 then j else j + 1)) (fun j hjq => by
        have hlt : (if j < j0 then j else j + 1) < q := by split <;> omega
        have a := h1 _ hlt
        have b : f (if j < j0 then j else j + 1) ≠ N := fun z => by
          have := h2 _ _ hlt hj (z.trans e.symm)
          split at this <;> omega
        show f (if j < j0 then j else j + 1) < N
        omega) (fun i j hi hjq z => by
        have a := h2 _ _ (show (if i < j0 then i else i + 1) < q by split <;> omega) (show (if j < j0 then j else j + 1) < q by split <;> omega) z
        split at a <;> split at a <;> omega)
      omega
    · have := ih q f (fun j hj => by
        have a := h1 j hj
        have b : f j ≠ N := fun z => hx ⟨j, hj, z⟩
        omega) h2
      omega
section BF
variable (C : Nat) (ok : Nat → Nat → Bool) (af : Nat → Nat → Nat) (sf : Nat → Bool)
def Edge (u c v : Nat) : Prop := 1 ≤ c ∧ c < C ∧ ok u c = true ∧ af u c = v ∧ sf v = true
/-- k steps from a to b, of which each ends where it is safe -/
def SW : Nat → Nat → Nat → Prop
  | 0, a, b => a = b
  | k + 1, a, b => ∃ c u, Edge C ok af sf a c u ∧ SW k u b
/-- k + 1 steps from s to v, the first of them c -/
def RC (s : Nat) : Nat → Nat → Nat → Prop
  | 0, v, c => Edge C ok af sf s c v
  | k + 1, v, c => ∃ u c', RC s k u c ∧ Edge C ok af sf u c' v
theorem SW_snoc {k a u c v : Nat} (h : SW C ok af sf k a u) (he : Edge C ok af sf u c v) : SW C ok af sf (k + 1) a v := by
  induction k generalizing a with
  | zero => cases h; exact ⟨c, v, he, rfl⟩
  | succ k ih =>
    obtain ⟨c1, u1, h1, h2⟩ := h
    exact ⟨c1, u1, h1, ih h2⟩
theorem RC_SW {s k v c : Nat} (h : RC C ok af sf s k v c) : ∃ t, Edge C ok af sf s c t ∧ SW C ok af sf k t v := by
  induction k generalizing v with
  | zero => exact ⟨v, h, rfl⟩
  | succ k ih =>
    obtain ⟨u, c', h1, h2⟩ := h
    obtain ⟨t, h3, h4⟩ := ih h1
    exact ⟨t, h3, SW_snoc C ok af sf h4 h2⟩
theorem SW_RC {s c : Nat} : ∀ {k j t v : Nat}, RC C ok af sf s j t c → SW C ok af sf k t v → RC C ok af sf s (j + k) v c
  | 0, j, t, v, h, h2 => by cases h2; exact h
  | k + 1, j, t, v, h, ⟨c1, u, h3, h4⟩ => by
    have := SW_RC (k := k) (j := j + 1) (t := u) (v := v) ⟨t, c1, h, h3⟩ h4
    rw [show j + (k + 1) = j + 1 + k by omega]
    exact this
/-- a way back, where each step can be made undone by itself -/
theorem SW_rev (hback : ∀ u c v, Edge C ok af sf u c v → sf u = true → Edge C ok af sf v c u) : ∀ {k a b : Nat}, sf a = true → SW C ok af sf k a b → SW C ok af sf k b a
  | 0, a, b, _, h => by cases h; rfl
  | k + 1, a, b, ha, ⟨c, u, h1, h2⟩ => SW_snoc C ok af sf (SW_rev hback h1.2.2.2.2 h2) (hback a c u h1 ha)
-- the search: how far (D), by which first step (F), in which order (Q, of which there are q)
def upO (f : Nat → Option Nat) (v d : Nat) : Nat → Option Nat := fun x => if x = v then some d else f x
def upN (f : Nat → Nat) (v d : Nat) : Nat → Nat := fun x => if x = v then d else f x
abbrev BS : Type := (Nat → Option Nat) × (Nat → Nat) × (Nat → Nat) × Nat
def bD (S : BS) (v : Nat) : Nat := (S.1 v).getD 0
def bEnter (S : BS) (v d f : Nat) : BS := (upO S.1 v d, upN S.2.1 v f, upN S.2.2.1 S.2.2.2 v, S.2.2.2 + 1)
def bC (u c : Nat) (S : BS) : BS := if ok u c = true ∧ S.1 (af u c) = none ∧ sf (af u c) = true then bEnter S (af u c) (bD S u + 1) (if bD S u = 0 then c else S.2.1 u) else S
def bU (u : Nat) : Nat → BS → BS
  | 0, S => S
  | m + 1, S => bC ok af sf u (m + 1) (bU u m S)
def bI : Nat → BS → BS
  | 0, S => S
  | i + 1, S => if i < (bI i S).2.2.2 then bU ok af sf ((bI i S).2.2.1 i) (C - 1) (bI i S) else bI i S
def b0 (s : Nat) (F Q : Nat → Nat) : BS := (fun x => if x = s then some 0 else none, upN F s 0, upN Q 0 s, 1)
/-- what holds while the i-th of the order is looked at, with m steps from it done -/
def BInv (N s i m : Nat) (S : BS) : Prop :=
  (∀ j, j < S.2.2.2 → S.2.2.1 j < N) ∧ (∀ j k, j < S.2.2.2 → k < S.2.2.2 → S.2.2.1 j = S.2.2.1 k → j = k) ∧
  (∀ v, S.1 v ≠ none ↔ ∃ j, j < S.2.2.2 ∧ S.2.2.1 j = v) ∧
  (S.1 s = some 0 ∧ ∀ v, S.1 v = some 0 → v = s) ∧ S.2.2.1 0 = s ∧ 0 < S.2.2.2 ∧
  (∀ j k, j < k → k < S.2.2.2 → bD S (S.2.2.1 j) ≤ bD S (S.2.2.1 k) ∧ (bD S (S.2.2.1 j) = bD S (S.2.2.1 k) → 1 ≤ bD S (S.2.2.1 j) → S.2.1 (S.2.2.1 j) ≤ S.2.1 (S.2.2.1 k))) ∧
  (∀ v d, S.1 v = some (d + 1) → RC C ok af sf s d v (S.2.1 v)) ∧
  (i < S.2.2.2 → ∀ k, k < S.2.2.2 → bD S (S.2.2.1 k) ≤ bD S (S.2.2.1 i) + 1 ∧ (bD S (S.2.2.1 k) = bD S (S.2.2.1 i) + 1 → S.2.1 (S.2.2.1 k) ≤ if bD S (S.2.2.1 i) = 0 then m else S.2.1 (S.2.2.1 i))) ∧
  (∀ j c v, j < S.2.2.2 → (j < i ∨ (j = i ∧ c ≤ m)) → Edge C ok af sf (S.2.2.1 j) c v → S.1 v ≠ none ∧ bD S v ≤ bD S (S.2.2.1 j) + 1 ∧ (bD S v = bD S (S.2.2.1 j) + 1 → S.2.1 v ≤ if bD S (S.2.2.1 j) = 0 then c else S.2.1 (S.2.2.1 j)))
theorem bInv_0 {N s : Nat} {F Q : Nat → Nat} (hs : s < N) : BInv C ok af sf N s 0 0 (b0 s F Q) := by
  have q0 : ∀ j, j < 1 → upN Q 0 s j = s := fun j hj => by unfold upN; rw [if_pos (by omega)]
  refine ⟨fun j hj => ?_, fun j k hj hk _ => ?_, fun v => ?_, ⟨?_, fun v hv => ?_⟩, q0 0 (by omega), Nat.one_pos, fun j k hj hk => ?_, fun v d hv => ?_, fun _ k hk => ?_, fun j c v hj hi he => ?_⟩
  · show upN Q 0 s j < N; rw [q0 j hj]; exact hs
  · have hj : j < 1 := hj; have hk : k < 1 := hk; omega
  · constructor
    · intro h
      refine ⟨0, Nat.one_pos, ?_⟩
      show upN Q 0 s 0 = v
      rw [q0 0 (by omega)]
      by_cases e : v = s
      · exact e.symm
      · exact absurd (show (if v = s then some 0 else none) = none by rw [if_neg e]) h
    · rintro ⟨j, hj, e⟩
      have e : upN Q 0 s j = v := e
      rw [q0 j hj] at e
      show (if v = s then some 0 else none) ≠ none
      rw [if_pos e.symm]; simp
  · show (if s = s then some 0 else none) = some 0; rw [if_pos rfl]
  · have hv : (if v = s then some 0 else none) = some 0 := hv
    by_cases e : v = s
    · exact e
    · rw [if_neg e] at hv; cases hv
  · have hk : k < 1 := hk; omega
  · have hv : (if v = s then some 0 else none) = some (d + 1) := hv
    split at hv <;> cases hv
  · have hk : k < 1 := hk
    have e : (b0 s F Q).2.2.1 k = s := q0 k hk
    have e0 : (b0 s F Q).2.2.1 0 = s := q0 0 (by omega)
    have z : bD (b0 s F Q) s = 0 := by unfold bD b0; simp
    rw [e, e0, z]
    exact ⟨by omega, fun h => by omega⟩
  · rcases hi with h | ⟨_, h⟩
    · omega
    · have := he.1; omega
theorem bInv_C {N s i m : Nat} {S : BS} (hi : i < S.2.2.2) (hm : m + 1 < C) (haf : ∀ u c, u < N → c < C → af u c < N) (h : BInv C ok af sf N s i m S) : BInv C ok af sf N s i (m + 1) (bC ok af sf (S.2.2.1 i) (m + 1) S) ∧ i < (bC ok af sf (S.2.2.1 i) (m + 1) S).2.2.2 ∧ (bC ok af sf (S.2.2.1 i) (m + 1) S).2.2.1 i = S.2.2.1 i := by
  obtain ⟨h1, h2, h3, h4, h5, h6, h7, h8, h9, h10⟩ := h
  have hui := h1 i hi
  obtain ⟨du, hdu⟩ : ∃ d, d = bD S (S.2.2.1 i) := ⟨_, rfl⟩
  have hsome : ∀ v, S.1 v ≠ none → S.1 v = some (bD S v) := fun v hv => by
    unfold bD
    cases e : S.1 v with
    | none => exact absurd e hv
    | some d => rfl
  have hvis : S.1 (S.2.2.1 i) ≠ none := (h3 _).mpr ⟨i, hi, rfl⟩
  by_cases hc : ok (S.2.2.1 i) (m + 1) = true ∧ S.1 (af (S.2.2.1 i) (m + 1)) = none ∧ sf (af (S.2.2.1 i) (m + 1)) = true
  · obtain ⟨c1, c2, c3⟩ := hc
    unfold bC
    rw [if_pos ⟨c1, c2, c3⟩]
    obtain ⟨v, hv⟩ : ∃ v, v = af (S.2.2.1 i) (m + 1) := ⟨_, rfl⟩
    obtain ⟨f, hf⟩ : ∃ f, f = (if bD S (S.2.2.1 i) = 0 then m + 1 else S.2.1 (S.2.2.1 i)) := ⟨_, rfl⟩
    rw [← hv] at c2 c3 ⊢
    rw [← hf, ← hdu]
    have hvN : v < N := by rw [hv]; exact haf _ _ hui hm
    have hne : ∀ j, j < S.2.2.2 → S.2.2.1 j ≠ v := fun j hj e => (h3 v).mpr ⟨j, hj, e⟩ c2
    have hQ : ∀ j, j < S.2.2.2 → (bEnter S v (du + 1) f).2.2.1 j = S.2.2.1 j := fun j hj => by
      show upN S.2.2.1 S.2.2.2 v j = _
      unfold upN
      rw [if_neg (by omega)]
    have hQn : (bEnter S v (du + 1) f).2.2.1 S.2.2.2 = v := by
      show upN S.2.2.1 S.2.2.2 v _ = _
      unfold upN
      rw [if_pos rfl]
    have hDo : ∀ x, x ≠ v → (bEnter S v (du + 1) f).1 x = S.1 x := fun x hx => by
      show upO S.1 v _ x = _
      unfold upO
      rw [if_neg hx]
    have hDn : (bEnter S v (du + 1) f).1 v = some (du + 1) := by
      show upO S.1 v _ v = _
      unfold upO
      rw [if_pos rfl]
    have hbo : ∀ x, x ≠ v → bD (bEnter S v (du + 1) f) x = bD S x := fun x hx => by unfold bD; rw [hDo x hx]
    have hbn : bD (bEnter S v (du + 1) f) v = du + 1 := by unfold bD; rw [hDn]; rfl
    have hFo : ∀ x, x ≠ v → (bEnter S v (du + 1) f).2.1 x = S.2.1 x := fun x hx => by
      show upN S.2.1 v f x = _
      unfold upN
      rw [if_neg hx]
    have hFn : (bEnter S v (du + 1) f).2.1 v = f := by
      show upN S.2.1 v f v = _
      unfold upN
      rw [if_pos rfl]
    have hq : (bEnter S v (du + 1) f).2.2.2 = S.2.2.2 + 1 := rfl
    have hsv : s ≠ v := fun e => by rw [← e, h4.1] at c2; cases c2
    have hf0 : du = 0 → f = m + 1 := fun z => by rw [hf, ← hdu, if_pos z]
    have hf1 : ¬ du = 0 → f = S.2.1 (S.2.2.1 i) := fun z => by rw [hf, ← hdu, if_neg z]
    refine ⟨⟨fun j hj => ?_, fun j k hj hk e => ?_, fun x => ?_, ⟨?_, fun x hx => ?_⟩, ?_, ?_, fun j k hjk hk => ?_, fun x d hx => ?_, fun _ k hk => ?_, fun j c x hj hcase he => ?_⟩, ?_, hQ i hi⟩
    · rw [hq] at hj
      rcases Nat.lt_or_ge j S.2.2.2 with z | z
      · rw [hQ j z]; exact h1 j z
      · rw [show j = S.2.2.2 by omega, hQn]; exact hvN
    · rw [hq] at hj hk
      rcases Nat.lt_or_ge j S.2.2.2 with z | z <;> rcases Nat.lt_or_ge k S.2.2.2 with y | y
      · rw [hQ j z, hQ k y] at e; exact h2 j k z y e
      · rw [show k = S.2.2.2 by omega, hQn, hQ j z] at e; exact absurd e (hne j z)
      · rw [show j = S.2.2.2 by omega, hQn, hQ k y] at e; exact absurd e.symm (hne k y)
      · omega
    · by_cases ex : x = v
      · subst ex
        constructor
        · intro _; exact ⟨S.2.2.2, by rw [hq]; omega, hQn⟩
        · intro _; rw [hDn]; simp
      · rw [hDo x ex, h3 x]
        constructor
        · rintro ⟨j, hj, e⟩; exact ⟨j, by rw [hq]; omega, by rw [hQ j hj]; exact e⟩
        · rintro ⟨j, hj, e⟩
          rw [hq] at hj
          rcases Nat.lt_or_ge j S.2.2.2 with z | z
          · exact ⟨j, z, by rw [← hQ j z]; exact e⟩
          · rw [show j = S.2.2.2 by omega, hQn] at e; exact absurd e.symm ex
    · rw [hDo s hsv]; exact h4.1
    · by_cases ex : x = v
      · subst ex; rw [hDn] at hx; cases hx
      · rw [hDo x ex] at hx; exact h4.2 x hx
    · rw [hQ 0 h6]; exact h5
    · rw [hq]; omega
    · rw [hq] at hk
      rcases Nat.lt_or_ge k S.2.2.2 with y | y
      · have z : j < S.2.2.2 := by omega
        rw [hQ j z, hQ k y, hbo _ (hne j z), hbo _ (hne k y), hFo _ (hne j z), hFo _ (hne k y)]
        exact h7 j k hjk y
      · have z : j < S.2.2.2 := by omega
        rw [show k = S.2.2.2 by omega, hQn, hQ j z, hbn, hbo _ (hne j z), hFn, hFo _ (hne j z)]
        have := h9 hi j z
        rw [← hdu] at this
        refine ⟨this.1, fun e _ => ?_⟩
        have h' := this.2 e
        by_cases z0 : du = 0
        · rw [hf0 z0]; rw [if_pos z0] at h'; omega
        · rw [hf1 z0]; rw [if_neg z0] at h'; exact h'
    · by_cases ex : x = v
      · rw [ex] at hx ⊢
        rw [hDn] at hx
        have hdd : du = d := by cases hx; rfl
        subst hdd
        rw [hFn]
        have he : Edge C ok af sf (S.2.2.1 i) (m + 1) v := ⟨by omega, hm, c1, hv.symm, c3⟩
        cases du with
        | zero =>
          have e0 : S.2.2.1 i = s := h4.2 _ (by rw [hsome _ hvis, ← hdu])
          rw [e0] at he
          rw [hf0 rfl]
          exact he
        | succ d' =>
          have := h8 (S.2.2.1 i) d' (by rw [hsome _ hvis, ← hdu])
          rw [hf1 (by omega)]
          exact ⟨_, _, this, he⟩
      · rw [hDo x ex] at hx
        rw [hFo x ex]
        exact h8 x d hx
    · rw [hQ i hi, hbo _ (hne i hi), hFo _ (hne i hi), ← hdu]
      rw [hq] at hk
      rcases Nat.lt_or_ge k S.2.2.2 with y | y
      · rw [hQ k y, hbo _ (hne k y), hFo _ (hne k y)]
        have := h9 hi k y
        rw [← hdu] at this
        refine ⟨this.1, fun e => ?_⟩
        have h' := this.2 e
        by_cases z0 : du = 0
        · rw [if_pos z0] at h' ⊢; omega
        · rw [if_neg z0] at h' ⊢; exact h'
      · rw [show k = S.2.2.2 by omega, hQn, hbn, hFn]
        refine ⟨by omega, fun _ => ?_⟩
        by_cases z0 : du = 0
        · rw [if_pos z0, hf0 z0]; exact Nat.le_refl _
        · rw [if_neg z0, hf1 z0]; exact Nat.le_refl _
    · rw [hq] at hj
      have hjq : j < S.2.2.2 := by
        rcases hcase with z | ⟨z, _⟩ <;> omega
      rw [hQ j hjq] at he ⊢
      rw [hbo _ (hne j hjq), hFo _ (hne j hjq)]
      by_cases ex : x = v
      · rw [ex, hDn, hbn, hFn]
        rcases hcase with z | ⟨z, hcm⟩
        · have := (h10 j c x hjq (Or.inl z) he).1
          rw [ex] at this
          exact absurd c2 this
        · subst z
          rcases Nat.lt_or_ge m c with hcm2 | hcm2
          · have : c = m + 1 := by omega
            subst this
            refine ⟨by simp, by rw [← hdu]; omega, fun _ => ?_⟩
            rw [hf]
            exact Nat.le_refl _
          · have := (h10 j c x hjq (Or.inr ⟨rfl, hcm2⟩) he).1
            rw [ex] at this
            exact absurd c2 this
      · rw [hDo x ex, hbo x ex, hFo x ex]
        rcases hcase with z | ⟨z, hcm⟩
        · exact h10 j c x hjq (Or.inl z) he
        · subst z
          rcases Nat.lt_or_ge m c with hcm2 | hcm2
          · have e1 : c = m + 1 := by omega
            subst e1
            exact absurd (he.2.2.2.1.symm.trans hv.symm) ex
          · exact h10 j c x hjq (Or.inr ⟨rfl, hcm2⟩) he
    · rw [hq]; omega
  · unfold bC
    rw [if_neg hc]
    refine ⟨⟨h1, h2, h3, h4, h5, h6, h7, h8, fun a k hk => ?_, fun j c x hj hcase he => ?_⟩, hi, rfl⟩
    · have := h9 a k hk
      refine ⟨this.1, fun e => ?_⟩
      have h' := this.2 e
      by_cases z0 : bD S (S.2.2.1 i) = 0
      · rw [if_pos z0] at h' ⊢; omega
      · rw [if_neg z0] at h' ⊢; exact h'
    · rcases hcase with z | ⟨z, hcm⟩
      · exact h10 j c x hj (Or.inl z) he
      · subst z
        rcases Nat.lt_or_ge m c with hcm2 | hcm2
        · have e1 : c = m + 1 := by omega
          subst e1
          have hx : S.1 x ≠ none := fun hn => hc ⟨he.2.2.1, by rw [he.2.2.2.1]; exact hn, by rw [he.2.2.2.1]; exact he.2.2.2.2⟩
          obtain ⟨k, hk, ek⟩ := (h3 x).mp hx
          have := h9 hi k hk
          rw [ek] at this
          refine ⟨hx, this.1, fun e => ?_⟩
          have h' := this.2 e
          by_cases z0 : bD S (S.2.2.1 j) = 0
          · rw [if_pos z0] at h' ⊢; omega
          · rw [if_neg z0] at h' ⊢; exact h'
        · exact h10 j c x hj (Or.inr ⟨rfl, hcm2⟩) he
theorem bInv_U {N s i : Nat} {S : BS} (hi : i < S.2.2.2) (haf : ∀ u c, u < N → c < C → af u c < N) (h : BInv C ok af sf N s i 0 S) : ∀ m, m < C → BInv C ok af sf N s i m (bU ok af sf (S.2.2.1 i) m S) ∧ i < (bU ok af sf (S.2.2.1 i) m S).2.2.2 ∧ (bU ok af sf (S.2.2.1 i) m S).2.2.1 i = S.2.2.1 i
  | 0, _ => ⟨h, hi, rfl⟩
  | m + 1, hm => by
    obtain ⟨a, b, c⟩ := bInv_U hi haf h m (by omega)
    have := bInv_C C ok af sf b hm haf a
    rw [c] at this
    exact this
theorem bInv_next {N s i : Nat} {S : BS} (hC : 1 ≤ C) (h : BInv C ok af sf N s i (C - 1) S) (hi : i < S.2.2.2) : BInv C ok af sf N s (i + 1) 0 S := by
  obtain ⟨h1, h2, h3, h4, h5, h6, h7, h8, h9, h10⟩ := h
  refine ⟨h1, h2, h3, h4, h5, h6, h7, h8, fun a k hk => ?_, fun j c x hj hcase he => ?_⟩
  · have b := h9 hi k hk
    have c := h7 i (i + 1) (by omega) a
    have hpos : 1 ≤ bD S (S.2.2.1 (i + 1)) := by
      rcases Nat.eq_zero_or_pos (bD S (S.2.2.1 (i + 1))) with z | z
      · exfalso
        have hv : S.1 (S.2.2.1 (i + 1)) ≠ none := (h3 _).mpr ⟨_, a, rfl⟩
        have : S.1 (S.2.2.1 (i + 1)) = some 0 := by
          unfold bD at z
          cases e : S.1 (S.2.2.1 (i + 1)) with
          | none => exact absurd e hv
          | some d => rw [e] at z; cases z; rfl
        have e := h4.2 _ this
        have := h2 (i + 1) 0 a h6 (e.trans h5.symm)
        omega
      · exact z
    refine ⟨by omega, fun e => ?_⟩
    rw [if_neg (by omega)]
    have e2 : bD S (S.2.2.1 (i + 1)) = bD S (S.2.2.1 i) := by omega
    have b' := b.2 (by omega)
    rw [if_neg (by omega)] at b'
    exact Nat.le_trans b' (c.2 e2.symm (by omega))
  · rcases hcase with z | ⟨z, hcm⟩
    · rcases Nat.lt_or_ge j i with y | y
      · exact h10 j c x hj (Or.inl y) he
      · exact h10 j c x hj (Or.inr ⟨by omega, by have := he.2.1; omega⟩) he
    · have := he.1; omega
theorem bInv_I {N s : Nat} {S : BS} (hC : 1 ≤ C) (haf : ∀ u c, u < N → c < C → af u c < N) (h : BInv C ok af sf N s 0 0 S) : ∀ i, (i ≤ (bI C ok af sf i S).2.2.2 → BInv C ok af sf N s i 0 (bI C ok af sf i S)) ∧ ((bI C ok af sf i S).2.2.2 < i → BInv C ok af sf N s (bI C ok af sf i S).2.2.2 0 (bI C ok af sf i S))
  | 0 => ⟨fun _ => h, fun z => by omega⟩
  | i + 1 => by
    obtain ⟨a, b⟩ := bInv_I hC haf h i
    unfold bI
    by_cases z : i < (bI C ok af sf i S).2.2.2
    · rw [if_pos z]
      have := a (by omega)
      obtain ⟨u1, u2, u3⟩ := bInv_U C ok af sf z haf this (C - 1) (by omega)
      exact ⟨fun _ => bInv_next C ok af sf hC u1 u2, fun y => by omega⟩
    · rw [if_neg z]
      refine ⟨fun y => ?_, fun y => ?_⟩
      · omega
      · rcases Nat.lt_or_ge (bI C ok af sf i S).2.2.2 i with x | x
        · exact b x
        · have e : (bI C ok af sf i S).2.2.2 = i := by omega
          rw [e]
          exact a (by omega)
/-- the search at its end -/
theorem b_end {N s : Nat} {F Q : Nat → Nat} (hs : s < N) (hC : 1 ≤ C) (haf : ∀ u c, u < N → c < C → af u c < N) (S : BS) (hS : S = bI C ok af sf N (b0 s F Q)) :
    (∀ v d, S.1 v = some (d + 1) → RC C ok af sf s d v (S.2.1 v)) ∧ (S.1 s = some 0 ∧ ∀ v, S.1 v = some 0 → v = s) ∧
    ∀ k v c, RC C ok af sf s k v c → ∃ d, S.1 v = some d ∧ d ≤ k + 1 ∧ (d = k + 1 → S.2.1 v ≤ c) := by
  have hI := bInv_I C ok af sf hC haf (bInv_0 C ok af sf (F := F) (Q := Q) hs) N
  rw [← hS] at hI
  have hq : S.2.2.2 ≤ N := by
    rcases Nat.lt_or_ge S.2.2.2 N with z | z
    · omega
    · have h := hI.1 z
      exact pig N S.2.2.2 S.2.2.1 h.1 h.2.1
  have hfin : BInv C ok af sf N s S.2.2.2 0 S := by
    rcases Nat.lt_or_ge S.2.2.2 N with z | z
    · exact hI.2 z
    · have e : S.2.2.2 = N := by omega
      rw [e]
      exact hI.1 (by omega)
  obtain ⟨h1, h2, h3, h4, h5, h6, h7, h8, h9, h10⟩ := hfin
  have hsome : ∀ v, S.1 v ≠ none → S.1 v = some (bD S v) := fun v hv => by
    unfold bD
    cases e : S.1 v with
    | none => exact absurd e hv
    | some d => rfl
  refine ⟨h8, h4, ?_⟩
  intro k
  induction k with
  | zero =>
    intro v c he
    have he : Edge C ok af sf s c v := he
    have a := h10 0 c v h6 (Or.inl h6) (by rw [h5]; exact he)
    rw [h5] at a
    have z : bD S s = 0 := by unfold bD; rw [h4.1]; rfl
    rw [z] at a
    refine ⟨bD S v, hsome v a.1, a.2.1, fun e => ?_⟩
    have := a.2.2 e
    rw [if_pos rfl] at this
    exact this
  | succ k ih =>
    intro v c he
    obtain ⟨u, c', hu, he'⟩ := he
    obtain ⟨du, e1, e2, e3⟩ := ih u c hu
    obtain ⟨j, hj, ej⟩ := (h3 u).mp (by rw [e1]; simp)
    have a := h10 j c' v hj (Or.inl hj) (by rw [ej]; exact he')
    rw [ej] at a
    have z : bD S u = du := by unfold bD; rw [e1]; rfl
    rw [z] at a
    refine ⟨bD S v, hsome v a.1, by omega, fun e => ?_⟩
    have hd : du = k + 1 := by omega
    have := a.2.2 (by omega)
    rw [if_neg (by omega)] at this
    exact Nat.le_trans this (e3 hd)
end BF
