/-! ===== 63.read: the whole text; what it settles ===== -/
theorem wrong_next {L : Int32} {mb : Nat → Int32} {kk : Int32 → Int32 → Int32 → Int32 → Int32 → Int32 → Int32 → Int32 → Int32 → (Nat → Int32) → (Nat → Int32) → Option (Int32 × Int32 × Int32 × Int32 × Int32 × Int32 × Int32 × Int32 × Int32 × Int32 × Int32 × Int32 × Int32 × Int32 × Int32 × (Nat → Int32) × (Nat → Int32) × (Nat → Int32) × (Nat → Int32) × (Nat → Int32) × (Nat → Int32))} {g : Nat} {c0 c1 c2 c3 it km hm ss : Int32} {sf sh : Nat → Int32} :
    lp_X7_coast_L34 L mb kk (g + 1) c0 c1 c2 c3 1 it km hm ss sf sh = kk c0 c1 c2 c3 1 it km hm ss sf sh := by
  unfold lp_X7_coast_L34
  by_cases z : c2 = 0
  · rw [if_pos z]
  · rw [if_neg z, if_neg (show ¬ (1 : Int32) = 0 by decide)]
theorem item_no {L c s k v w km hm ss : Int32} {mb sf sh : Nat → Int32} (h : ¬ k = 1 ∨ f_X7_mayBegin km hm ss v = some 0) : f_X7_readItem L c s k v w km hm ss mb sf sh = some (c, s, k, v, 1, km, hm, ss, sf, sh) := by
  unfold f_X7_readItem
  by_cases z : k = 1
  · rcases h with h | h
    · exact absurd z h
    · rw [if_pos z, h, bs, if_pos rfl]
  · rw [if_neg z]
/-- what reading comes to: a fault at the same place, or as many ITEMS and all told alike -/
def RD (a a1 b1 b4 b5 : Int32) (D : Prop) : Prop := (a = -9 ∧ b4 = 1 ∧ b1 = a1) ∨ ∃ j : Nat, j ≤ 120 ∧ a = nI j ∧ b4 = 0 ∧ b5 = nI j ∧ D
theorem rd_loop {L : Nat} {t : Nat → Nat} {xb mb : Nat → Int32} {kx : Int32 → Int32 → Int32 → Int32 → Int32 → Int32 → Int32 → Int32 → Int32 → (Nat → Int32) → (Nat → Int32) → Option (Int32 × Int32 × Int32 × Int32 × Int32 × Int32 × Int32 × Int32 × Int32 × (Nat → Int32) × (Nat → Int32))}
    {kk : Int32 → Int32 → Int32 → Int32 → Int32 → Int32 → Int32 → Int32 → Int32 → (Nat → Int32) → (Nat → Int32) → Option (Int32 × Int32 × Int32 × Int32 × Int32 × Int32 × Int32 × Int32 × Int32 × Int32 × Int32 × Int32 × Int32 × Int32 × Int32 × (Nat → Int32) × (Nat → Int32) × (Nat → Int32) × (Nat → Int32) × (Nat → Int32) × (Nat → Int32))} (hT : TXT L t xb mb) :
    ∀ (d f f' pos i : Nat) (place tok val kp hp sp tp : Int32) (fh ff : Nat → Int32) (c0 c1 c2 c3 km hm ss : Int32) (sf sh : Nat → Int32), L < pos + d → d < f → d < f' → pos ≤ L → i ≤ pos → DR kp hp sp tp fh ff km hm ss sf sh → f_X7_next (nI L) (nI pos) mb = some (c0, c1, c2, c3) →
      ∃ a a1 a2 a3 a4 a5 a6 a7 a8 a9 a10 b0 b1 b2 b3 b4 b5 b6 b7 b8 b9 b10, lp_X1_read_L11 (nI L) xb kx f (nI i) place (nI pos) tok val kp hp sp tp fh ff = some (a, a1, a2, a3, a4, a5, a6, a7, a8, a9, a10) ∧ lp_X7_coast_L34 (nI L) mb kk f' c0 c1 c2 c3 0 (nI i) km hm ss sf sh = kk b0 b1 b2 b3 b4 b5 b6 b7 b8 b9 b10 ∧
        RD a a1 b1 b4 b5 (DR a5 a6 a7 a8 a9 a10 b6 b7 b8 b9 b10) := by
  obtain ⟨hL, hx⟩ := id hT
  intro d
  induction d with
  | zero => intro f f' pos i place tok val kp hp sp tp fh ff c0 c1 c2 c3 km hm ss sf sh h1 h2 h3 h4; omega
  | succ d ih =>
    intro f f' pos i place tok val kp hp sp tp fh ff c0 c1 c2 c3 km hm ss sf sh h1 h2 h3 h4 h5 hD hN
    obtain ⟨f, rfl⟩ := pred1 (Nat.lt_of_le_of_lt (Nat.zero_le _) h2)
    obtain ⟨g, rfl⟩ : ∃ g, f' = g + 2 := ⟨f' - 2, by omega⟩
    obtain ⟨p, e, ex, ky, vy, kz, vz, q1, q2, q3, q4, hX, hM, hR⟩ := next_both hT h4 val
    rw [hN] at hM
    obtain ⟨rfl, rfl, rfl, rfl⟩ : c0 = nI e ∧ c1 = nI p ∧ kz = c2 ∧ vz = c3 := by
      have := Option.some.inj hM
      simp only [Prod.mk.injEq] at this
      exact ⟨this.1, this.2.1, this.2.2.1.symm, this.2.2.2.symm⟩
    have n120 : ¬ (120 : Int32) < nI i := fun y => by rw [show (120 : Int32) = nI 120 from rfl, nLt (by omega) (by omega)] at y; omega
    unfold lp_X1_read_L11
    rw [if_neg n120, hX, bs]
    -- a TOKEN that begins no ITEM
    have bad : ∀ A : Option (Int32 × Int32 × Int32 × Int32 × Int32 × Int32 × Int32 × Int32 × Int32 × (Nat → Int32) × (Nat → Int32)), A = some (-9, nI p, ex, ky, vy, kp, hp, sp, tp, fh, ff) → ¬ kz = 0 → (¬ kz = 1 ∨ f_X7_mayBegin km hm ss vz = some 0) → ∃ a a1 a2 a3 a4 a5 a6 a7 a8 a9 a10 b0 b1 b2 b3 b4 b5 b6 b7 b8 b9 b10, A = some (a, a1, a2, a3, a4, a5, a6, a7, a8, a9, a10) ∧ lp_X7_coast_L34 (nI L) mb kk (g + 2) (nI e) (nI p) kz vz 0 (nI i) km hm ss sf sh = kk b0 b1 b2 b3 b4 b5 b6 b7 b8 b9 b10 ∧ RD a a1 b1 b4 b5 (DR a5 a6 a7 a8 a9 a10 b6 b7 b8 b9 b10) := fun A hA z1 z2 => by
      refine ⟨-9, nI p, ex, ky, vy, kp, hp, sp, tp, fh, ff, nI e, nI p, kz, vz, 1, nI i + 1, km, hm, ss, sf, sh, hA, ?_, Or.inl ⟨rfl, rfl, rfl⟩⟩
      unfold lp_X7_coast_L34
      rw [if_neg z1, if_pos rfl, item_no z2, bs]
      exact wrong_next
    -- an ITEM, read by both
    have good : ∀ (A : Option (Int32 × Int32 × Int32 × Int32 × Int32 × Int32 × Int32 × Int32 × Int32 × (Nat → Int32) × (Nat → Int32))) (a ap ae a3 a4 k' h' s' t' : Int32) (fh' ff' : Nat → Int32) (b0 b1 b2 b3 b4 bk bm bss : Int32) (bf bh : Nat → Int32), p < e → ¬ kz = 0 → f_X7_readItem (nI L) (nI e) (nI p) kz vz 0 km hm ss mb sf sh = some (b0, b1, b2, b3, b4, bk, bm, bss, bf, bh) → IT L e mb a ap ae b0 b1 b2 b3 b4 (DR k' h' s' t' fh' ff' bk bm bss bf bh) →
        A = (if a = 0 then some (-9, ap, ae, a3, a4, k', h', s', t', fh', ff') else lp_X1_read_L11 (nI L) xb kx f (nI i + 1) ap ae a3 a4 k' h' s' t' fh' ff') →
        ∃ a a1 a2 a3 a4 a5 a6 a7 a8 a9 a10 b0 b1 b2 b3 b4 b5 b6 b7 b8 b9 b10, A = some (a, a1, a2, a3, a4, a5, a6, a7, a8, a9, a10) ∧ lp_X7_coast_L34 (nI L) mb kk (g + 2) (nI e) (nI p) kz vz 0 (nI i) km hm ss sf sh = kk b0 b1 b2 b3 b4 b5 b6 b7 b8 b9 b10 ∧ RD a a1 b1 b4 b5 (DR a5 a6 a7 a8 a9 a10 b6 b7 b8 b9 b10) := fun A a ap ae a3 a4 k' h' s' t' fh' ff' b0 b1 b2 b3 b4 bk bm bss bf bh z0 z1 z2 z3 hA => by
      have hm : lp_X7_coast_L34 (nI L) mb kk (g + 2) (nI e) (nI p) kz vz 0 (nI i) km hm ss sf sh = lp_X7_coast_L34 (nI L) mb kk (g + 1) b0 b1 b2 b3 b4 (nI (i + 1)) bk bm bss bf bh := by
        rw [← nI_1]
        show (if kz = 0 then _ else _) = _
        rw [if_neg z1, if_pos rfl, z2, bs]
      rw [hm, hA]
      rcases z3 with ⟨rfl, rfl, rfl⟩ | ⟨rfl, rfl, q, w1, w2, rfl, w3, w4⟩
      · exact ⟨-9, b1, ae, a3, a4, k', h', s', t', fh', ff', b0, b1, b2, b3, 1, nI (i + 1), bk, bm, bss, bf, bh, by rw [if_pos rfl], wrong_next, Or.inl ⟨rfl, rfl, rfl⟩⟩
      · rw [if_neg (show ¬ (1 : Int32) = 0 by decide), nI_1]
        exact ih f (g + 1) q (i + 1) ap a3 a4 k' h' s' t' fh' ff' b0 b1 b2 b3 bk bm bss bf bh (by omega) (by omega) (by omega) w2 (by omega) w4 w3
    rcases hR with ⟨r1, r2⟩ | ⟨r1, r2⟩ | ⟨r1, r2, -⟩ | ⟨r1, r2, c, c1, c2, r3, r4⟩ | ⟨r1, r2⟩
    · refine ⟨nI i, nI p, ex, ky, vy, kp, hp, sp, tp, fh, ff, nI e, nI p, kz, vz, 0, nI i, km, hm, ss, sf, sh, ?_, ?_, Or.inr ⟨i, by omega, rfl, rfl, rfl, hD⟩⟩
      · show (if ky = 0 then _ else _) = _
        rw [if_pos r1]
      · unfold lp_X7_coast_L34
        rw [if_pos r2]
    · refine bad _ ?_ (by rw [r2]; decide) (Or.inl (by rw [r2]; decide))
      show (if ky = 0 then _ else if ky = 1 then _ else _) = _
      rw [if_neg (by rw [r1]; decide), if_neg (by rw [r1]; decide)]
    · refine bad _ ?_ (by rw [r2]; decide) (Or.inl (by rw [r2]; decide))
      show (if ky = 0 then _ else if ky = 1 then _ else _) = _
      rw [if_neg (by rw [r1]; decide), if_neg (by rw [r1]; decide)]
    · subst r1; subst r2; subst r3; subst r4
      obtain ⟨hpe, rfl⟩ : p < e ∧ ex = nI e := by
        rcases q4 with q4 | q4
        · exact q4
        · exact absurd q4 (by decide)
      by_cases ck : c = 107
      · subst ck
        obtain ⟨a, ap, ae, a3, a4, ak, af, b0, b1, b2, b3, b4, bk, bm, bss, bf, bh, k1, k2, k3⟩ := item_k (p := p) hT q3 hD
        refine good _ a ap ae a3 a4 ak hp sp tp fh af b0 b1 b2 b3 b4 bk bm bss bf bh hpe (by decide) k2 k3 ?_
        show (if (1 : Int32) = 0 then _ else if (1 : Int32) = 1 then (if nI 107 = 107 then _ else _) else _) = _
        rw [if_neg (show ¬ (1 : Int32) = 0 by decide), if_pos rfl, if_pos (show nI 107 = 107 from rfl), k1, bs]
      · by_cases ch : c = 104
        · subst ch
          obtain ⟨a, ap, ae, a3, a4, ah, af, b0, b1, b2, b3, b4, bk, bm, bss, bf, bh, k1, k2, k3⟩ := item_h (p := p) hT q3 hD
          refine good _ a ap ae a3 a4 kp ah sp tp af ff b0 b1 b2 b3 b4 bk bm bss bf bh hpe (by decide) k2 k3 ?_
          show (if (1 : Int32) = 0 then _ else if (1 : Int32) = 1 then (if nI 104 = 107 then _ else if nI 104 = 104 then _ else _) else _) = _
          rw [if_neg (show ¬ (1 : Int32) = 0 by decide), if_pos rfl, if_neg (show ¬ nI 104 = 107 by decide), if_pos (show nI 104 = 104 from rfl), k1, bs]
        · by_cases cs : c = 115
          · subst cs
            obtain ⟨a, ap, ae, a3, a4, as1, at1, b0, b1, b2, b3, b4, bk, bm, bss, bf, bh, k1, k2, k3⟩ := item_s (p := p) hT q3 hD
            refine good _ a ap ae a3 a4 kp hp as1 at1 fh ff b0 b1 b2 b3 b4 bk bm bss bf bh hpe (by decide) k2 k3 ?_
            show (if (1 : Int32) = 0 then _ else if (1 : Int32) = 1 then (if nI 115 = 107 then _ else if nI 115 = 104 then _ else if nI 115 = 115 then _ else _) else _) = _
            rw [if_neg (show ¬ (1 : Int32) = 0 by decide), if_pos rfl, if_neg (show ¬ nI 115 = 107 by decide), if_neg (show ¬ nI 115 = 104 by decide), if_pos (show nI 115 = 115 from rfl), k1, bs]
          · have x1 : ¬ nI c = 107 := nE (b := 107) (by omega) (by omega) ck
            have x2 : ¬ nI c = 104 := nE (b := 104) (by omega) (by omega) ch
            have x3 : ¬ nI c = 115 := nE (b := 115) (by omega) (by omega) cs
            refine bad _ ?_ (by decide) (Or.inr ?_)
            · show (if (1 : Int32) = 0 then _ else if (1 : Int32) = 1 then (if nI c = 107 then _ else if nI c = 104 then _ else if nI c = 115 then _ else _) else _) = _
              rw [if_neg (show ¬ (1 : Int32) = 0 by decide), if_pos rfl, if_neg x1, if_neg x2, if_neg x3]
            · unfold f_X7_mayBegin
              rw [if_neg x2, if_neg x1, if_neg x3]
    · refine bad _ ?_ (by rcases r2 with r2 | ⟨r2, -⟩ <;> rw [r2] <;> decide) ?_
      · show (if ky = 0 then _ else if ky = 1 then _ else _) = _
        rw [if_neg (by rw [r1]; decide), if_neg (by rw [r1]; decide)]
      · rcases r2 with r2 | ⟨r2, r3⟩
        · exact Or.inl (by rw [r2]; decide)
        · refine Or.inr ?_
          unfold f_X7_mayBegin
          rw [r3, if_neg (show ¬ (0 : Int32) = 104 by decide), if_neg (show ¬ (0 : Int32) = 107 by decide), if_neg (show ¬ (0 : Int32) = 115 by decide)]
-- what is settled
theorem set37 {sf sh : Nat → Int32} {k : Int32 → (Nat → Int32) → (Nat → Int32) → Option (Int32 × Int32 × Int32 × Int32 × Int32 × (Nat → Int32) × (Nat → Int32) × (Nat → Int32) × (Nat → Int32))} : ∀ (d f j : Nat) (a b : Nat → Int32), 6 = j + d → d < f → (∀ q, q < j → a q = sf q ∧ b q = sh q) → ∃ y a' b', (∀ q, q < 6 → a' q = sf q ∧ b' q = sh q) ∧ lp_X7_settles_L37 sf sh k f (nI j) a b = k y a' b' := by
  intro d
  induction d with
  | zero =>
    intro f j a b hj hf h1
    obtain ⟨f, rfl⟩ := pred1 hf
    unfold lp_X7_settles_L37
    exact ⟨nI j, a, b, fun q hq => h1 q (by omega), by rw [if_pos (show (6 : Int32) ≤ nI j from nI_le (a := 6) (by omega) (by omega))]⟩
  | succ d ih =>
    intro f j a b hj hf h1
    obtain ⟨f, rfl⟩ := pred1 (Nat.lt_of_le_of_lt (Nat.zero_le _) hf)
    unfold lp_X7_settles_L37
    rw [if_neg (show ¬ (6 : Int32) ≤ nI j from nI_ge (b := 6) (by omega) (by omega)), if_neg (nG (by omega) (by omega)), if_neg (nG (by omega) (by omega)), if_neg (nG (by omega) (by omega)), if_neg (nG (by omega) (by omega)), nC (by omega), nI_1]
    refine ih f (j + 1) _ _ (by omega) (by omega) (fun q hq => ?_)
    by_cases e : q = j
    · subst e; rw [pk_us, pk_us]; exact ⟨rfl, rfl⟩
    · rw [pk_un e, pk_un e]; exact h1 q (by omega)
theorem set75 {k : Int32 → (Nat → Int32) → Option (Int32 × Int32 × Int32 × Int32 × Int32 × (Nat → Int32) × (Nat → Int32) × (Nat → Int32) × (Nat → Int32))} : ∀ (d f j : Nat) (a : Nat → Int32), 100 = j + d → d < f → (∀ q, q < j → a q = if q < 6 then nI q else 0) → ∃ y a', (∀ q, q < 100 → a' q = if q < 6 then nI q else 0) ∧ lp_X7_settles_L75 k f (nI j) a = k y a' := by
  intro d
  induction d with
  | zero =>
    intro f j a hj hf h1
    obtain ⟨f, rfl⟩ := pred1 hf
    unfold lp_X7_settles_L75
    exact ⟨nI j, a, fun q hq => h1 q (by omega), by rw [if_pos (show (100 : Int32) ≤ nI j from nI_le (a := 100) (by omega) (by omega))]⟩
  | succ d ih =>
    intro f j a hj hf h1
    obtain ⟨f, rfl⟩ := pred1 (Nat.lt_of_le_of_lt (Nat.zero_le _) hf)
    unfold lp_X7_settles_L75
    rw [if_neg (show ¬ (100 : Int32) ≤ nI j from nI_ge (b := 100) (by omega) (by omega)), if_neg (nG (by omega) (by omega)), nC (by omega), nI_1]
    by_cases z : j < 6
    · rw [if_neg (show ¬ (6 : Int32) ≤ nI j from nI_ge (b := 6) (by omega) (by omega)), if_neg (nH (by omega) (by omega))]
      refine ih f (j + 1) _ (by omega) (by omega) (fun q hq => ?_)
      by_cases e : q = j
      · subst e; rw [pk_us, if_pos z]
      · rw [pk_un e]; exact h1 q (by omega)
    · rw [if_pos (show (6 : Int32) ≤ nI j from nI_le (a := 6) (by omega) (by omega))]
      refine ih f (j + 1) _ (by omega) (by omega) (fun q hq => ?_)
      by_cases e : q = j
      · subst e; rw [pk_us, if_neg z]
      · rw [pk_un e]; exact h1 q (by omega)
theorem settles_m {km hm ss : Int32} {flash sf hates sh st ik : Nat → Int32} {sg : Nat} (hs : (ss = -1 ∧ sg = 1) ∨ (sg < 6 ∧ ss = nI sg)) :
    ∃ flash' hates' st' ik', (∀ q, q < 6 → flash' q = sf q ∧ hates' q = sh q) ∧ (∀ q, q < 100 → st' q = if q < 6 then nI q else 0) ∧ ik' 0 = 0 ∧ ik' 1 = 0 ∧ f_X7_settles km hm ss flash sf hates sh st ik = some (km, hm, nI sg, 0, 0, flash', hates', st', ik') := by
  have c0 : (Int32.toNatClampNeg 0) = 0 := by decide
  have c1 : (Int32.toNatClampNeg 1) = 1 := by decide
  have v0 : vp_nar .boolean 0 = 0 := by decide
  have k1 : upd (upd ik (Int32.toNatClampNeg 0) (vp_nar .boolean 0)) (Int32.toNatClampNeg 1) (vp_nar .boolean 0) = upd (upd ik 0 0) 1 0 := by rw [c0, c1, v0]
  have i0 : upd (upd ik 0 0) 1 0 0 = 0 := by rw [pk_un (by omega), pk_us]
  have i1 : upd (upd ik 0 0) 1 0 1 = 0 := pk_us
  rcases hs with ⟨rfl, rfl⟩ | ⟨hs, rfl⟩
  · obtain ⟨y, flash', hates', a1, a2⟩ := set37 (sf := sf) (sh := sh) (k := fun _ y17 y18 => lp_X7_settles_L75 (fun _ y20 => some (km, hm, 1, 0, 0, y17, y18, y20, upd (upd ik (Int32.toNatClampNeg 0) (vp_nar .boolean 0)) (Int32.toNatClampNeg 1) (vp_nar .boolean 0))) FU 0 st) 6 FU 0 flash hates (by omega) (by show _ < 4096; omega) (fun q hq => by omega)
    obtain ⟨y2, st', b1, b2⟩ := set75 (k := fun _ y20 => some (km, hm, 1, 0, 0, flash', hates', y20, upd (upd ik (Int32.toNatClampNeg 0) (vp_nar .boolean 0)) (Int32.toNatClampNeg 1) (vp_nar .boolean 0))) 100 FU 0 st (by omega) (by show _ < 4096; omega) (fun q hq => by omega)
    refine ⟨flash', hates', st', upd (upd ik 0 0) 1 0, a1, b1, i0, i1, ?_⟩
    unfold f_X7_settles
    rw [if_neg (show ¬ (0 : Int32) ≤ -1 by decide)]
    refine a2.trans (b2.trans ?_)
    rw [k1]
    rfl
  · obtain ⟨y, flash', hates', a1, a2⟩ := set37 (sf := sf) (sh := sh) (k := fun _ y17 y18 => lp_X7_settles_L75 (fun _ y20 => some (km, hm, nI sg, 0, 0, y17, y18, y20, upd (upd ik (Int32.toNatClampNeg 0) (vp_nar .boolean 0)) (Int32.toNatClampNeg 1) (vp_nar .boolean 0))) FU 0 st) 6 FU 0 flash hates (by omega) (by show _ < 4096; omega) (fun q hq => by omega)
    obtain ⟨y2, st', b1, b2⟩ := set75 (k := fun _ y20 => some (km, hm, nI sg, 0, 0, flash', hates', y20, upd (upd ik (Int32.toNatClampNeg 0) (vp_nar .boolean 0)) (Int32.toNatClampNeg 1) (vp_nar .boolean 0))) 100 FU 0 st (by omega) (by show _ < 4096; omega) (fun q hq => by omega)
    refine ⟨flash', hates', st', upd (upd ik 0 0) 1 0, a1, b1, i0, i1, ?_⟩
    unfold f_X7_settles
    rw [if_pos (show (0 : Int32) ≤ nI sg from nI_le (a := 0) (by omega) (by omega))]
    refine a2.trans (b2.trans ?_)
    rw [k1]
theorem type_eq {L : Nat} {t : Nat → Nat} {xb mb : Nat → Int32} (hT : TXT L t xb mb) (x1 : Int32) :
    ∃ a l' xb' mb', ∃ (L' : Nat) (t' : Nat → Nat), f_X6_type (nI L) xb x1 = some (a, l', xb') ∧ f_X7_type (nI L) mb x1 = some (a, l', mb') ∧ l' = nI L' ∧ TXT L' t' xb' mb' := by
  obtain ⟨hL, hx⟩ := id hT
  unfold f_X6_type f_X7_type
  rcases in_n (hi := 255) (by omega) x1 with ⟨z, h⟩ | ⟨z1, z2, h⟩ | ⟨c, hc, e1, h⟩
  · have h : f_X7_in x1 0 255 = some 0 := h
    exact ⟨-1, nI L, xb, mb, L, t, by rw [if_pos z], by rw [h, bs, if_pos rfl], rfl, hT⟩
  · have h : f_X7_in x1 0 255 = some 0 := h
    have z3 : ¬ x1 ≤ 255 := fun y => by
      rw [leI] at y
      have z2 : (255 : Int32) < x1 := z2
      rw [ltI] at z2
      omega
    exact ⟨-1, nI L, xb, mb, L, t, by rw [if_neg z1, if_neg z3], by rw [h, bs, if_pos rfl], rfl, hT⟩
  · have h : f_X7_in x1 0 255 = some 1 := h
    have z1 : ¬ x1 < 0 := by rw [e1]; exact nP (by omega)
    have z3 : x1 ≤ 255 := by rw [e1]; exact nI_le (b := 255) (by omega) (by omega)
    rw [if_neg z1, if_pos z3, h, bs, if_neg (show ¬ (1 : Int32) = 0 by decide)]
    unfold f_X1_add
    by_cases z : L = 120
    · refine ⟨-3, nI L, xb, mb, L, t, ?_, ?_, rfl, hT⟩
      · rw [if_neg (show ¬ nI L < (120 : Int32) from by rw [z]; decide), bs, if_pos rfl]
      · rw [if_pos (show nI L = 120 from by rw [z]; rfl)]
    · refine ⟨nI (L + 1), nI (L + 1), upd xb L x1, upd mb L x1, L + 1, fun i => if i = L then c else t i, ?_, ?_, rfl, by omega, fun i hi => ?_⟩
      · rw [if_pos (show nI L < (120 : Int32) from nI_lt (b := 120) (by omega) (by omega)), put_in (by omega) (by omega), bs, bs, if_neg (show ¬ (1 : Int32) = 0 by decide), nI_1]
      · rw [if_neg (show ¬ nI L = 120 from nE (b := 120) (by omega) (by omega) z), if_neg (nG (by omega) (by omega)), nC (by omega), nI_1]
      · show (if i = L then c else t i) < 256 ∧ upd xb L x1 i = nI (if i = L then c else t i) ∧ upd mb L x1 i = nI (if i = L then c else t i)
        by_cases q : i = L
        · subst q
          rw [if_pos rfl, pk_us, pk_us]
          exact ⟨by omega, e1, e1⟩
        · rw [if_neg q, pk_un q, pk_un q]
          exact hx i (by omega)
