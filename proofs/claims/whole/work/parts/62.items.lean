/-! ===== 62.items: an ITEM, for the class and for the reference ===== -/
theorem num_both {L pos : Nat} {t : Nat → Nat} {xb mb : Nat → Int32} (hT : TXT L t xb mb) (hp : pos ≤ L) (old lo hi : Int32) :
    ∃ p e : Nat, ∃ ex kx vx km vm : Int32, pos ≤ e ∧ e ≤ L ∧ f_X7_next (nI L) (nI pos) mb = some (nI e, nI p, km, vm) ∧
      ((f_X1_readNumber (nI L) (nI pos) old xb lo hi = some (0, nI p, ex, kx, vx) ∧ ∀ taken, f_X7_takes (nI L) (nI e) (nI p) km vm 0 mb lo hi taken = some (0, nI e, nI p, km, vm, 1)) ∨
       ∃ v : Nat, v ≤ 99 ∧ ¬ nI v < lo ∧ ¬ hi < nI v ∧ f_X1_readNumber (nI L) (nI pos) old xb lo hi = some (1, nI p, nI e, kx, nI v) ∧
        (∀ taken, ¬ nI v = taken → f_X7_takes (nI L) (nI e) (nI p) km vm 0 mb lo hi taken = (f_X7_next (nI L) (nI e) mb).bind fun u6 => some (nI v, u6.1, u6.2.1, u6.2.2.1, u6.2.2.2, 0)) ∧
        f_X7_takes (nI L) (nI e) (nI p) km vm 0 mb lo hi (nI v) = some (0, nI e, nI p, km, vm, 1)) := by
  obtain ⟨p, e, ex, kx, vx, km, vm, h1, h2, h3, h4, hX, hM, hR⟩ := next_both hT hp old
  refine ⟨p, e, ex, kx, vx, km, vm, by omega, h3, hM, ?_⟩
  unfold f_X1_readNumber f_X7_takes
  rw [hX, bs]
  have no : ¬ kx = 2 → ¬ km = 2 → ((if kx = 2 then if vx < lo then some ((0 : Int32), nI p, ex, kx, vx) else if hi < vx then some (0, nI p, ex, kx, vx) else some (1, nI p, ex, kx, vx) else some (0, nI p, ex, kx, vx)) = some (0, nI p, ex, kx, vx) ∧ ∀ taken : Int32, (if (0 : Int32) = 0 then if km = 2 then (f_X7_in vm lo hi).bind fun u3 => if u3 = 0 then some ((0 : Int32), nI e, nI p, km, vm, (1 : Int32)) else if vm = taken then some (0, nI e, nI p, km, vm, 1) else (f_X7_next (nI L) (nI e) mb).bind fun u6 => some (vm, u6.1, u6.2.1, u6.2.2.1, u6.2.2.2, 0) else some (0, nI e, nI p, km, vm, 1) else some (0, nI e, nI p, km, vm, 1)) = some (0, nI e, nI p, km, vm, 1)) := fun a b => ⟨by rw [if_neg a], fun _ => by rw [if_pos rfl, if_neg b]⟩
  rcases hR with ⟨r1, r2⟩ | ⟨r1, r2⟩ | ⟨r1, r2, v, v1, v2, v3⟩ | ⟨r1, r2, -⟩ | ⟨r1, r2⟩
  · exact Or.inl (no (by rw [r1]; decide) (by rw [r2]; decide))
  · exact Or.inl (no (by rw [r1]; decide) (by rw [r2]; decide))
  · subst r1; subst r2; subst v2; subst v3
    obtain ⟨-, rfl⟩ := h4.resolve_right (show ¬ (2 : Int32) = 0 by decide)
    by_cases c1 : nI v < lo
    · refine Or.inl ⟨?_, fun taken => ?_⟩
      · show (if (2 : Int32) = 2 then if nI v < lo then _ else _ else _) = _
        rw [if_pos rfl, if_pos c1]
      · rw [if_pos rfl, if_pos rfl, in_lo c1, bs, if_pos rfl]
    · by_cases c2 : hi < nI v
      · refine Or.inl ⟨?_, fun taken => ?_⟩
        · show (if (2 : Int32) = 2 then if nI v < lo then _ else if hi < nI v then _ else _ else _) = _
          rw [if_pos rfl, if_neg c1, if_pos c2]
        · rw [if_pos rfl, if_pos rfl, in_hi c2, bs, if_pos rfl]
      · refine Or.inr ⟨v, v1, c1, c2, ?_, fun taken ht => ?_, ?_⟩
        · show (if (2 : Int32) = 2 then if nI v < lo then _ else if hi < nI v then _ else _ else _) = _
          rw [if_pos rfl, if_neg c1, if_neg c2]
        · rw [if_pos rfl, if_pos rfl, in_yes c1 c2, bs, if_neg (show ¬ (1 : Int32) = 0 by decide), if_neg ht]
        · rw [if_pos rfl, if_pos rfl, in_yes c1 c2, bs, if_neg (show ¬ (1 : Int32) = 0 by decide), if_pos rfl]
  · exact Or.inl (no (by rw [r1]; decide) (by rw [r2]; decide))
  · exact Or.inl (no (by rw [r1]; decide) (by rcases r2 with r2 | ⟨r2, -⟩ <;> rw [r2] <;> decide))
theorem takes_no {L c s k v lo hi taken : Int32} {mb : Nat → Int32} : f_X7_takes L c s k v 1 mb lo hi taken = some (0, c, s, k, v, 1) := by
  unfold f_X7_takes
  rw [if_neg (show ¬ (1 : Int32) = 0 by decide)]
theorem semi_both {L pos : Nat} {t : Nat → Nat} {xb mb : Nat → Int32} (hT : TXT L t xb mb) (hp : pos ≤ L) (old : Int32) :
    ∃ p e : Nat, ∃ ex kx vx km vm : Int32, pos ≤ e ∧ e ≤ L ∧ f_X7_next (nI L) (nI pos) mb = some (nI e, nI p, km, vm) ∧
      ((km = 3 ∧ f_X1_readSemicolon (nI L) (nI pos) old xb = some (1, nI p, nI e, kx, vx)) ∨ (¬ km = 3 ∧ f_X1_readSemicolon (nI L) (nI pos) old xb = some (0, nI p, ex, kx, vx))) := by
  obtain ⟨p, e, ex, kx, vx, km, vm, h1, h2, h3, h4, hX, hM, hR⟩ := next_both hT hp old
  refine ⟨p, e, ex, kx, vx, km, vm, by omega, h3, hM, ?_⟩
  have yes : kx = 3 → f_X1_readSemicolon (nI L) (nI pos) old xb = some (1, nI p, nI e, kx, vx) := fun a => by
    obtain ⟨-, hex⟩ := h4.resolve_right (show ¬ kx = 0 by rw [a]; decide)
    unfold f_X1_readSemicolon
    rw [hX, bs, hex]
    show (if kx = 3 then _ else _) = _
    rw [if_pos a]
  have no : ¬ kx = 3 → f_X1_readSemicolon (nI L) (nI pos) old xb = some (0, nI p, ex, kx, vx) := fun a => by
    unfold f_X1_readSemicolon
    rw [hX, bs]
    show (if kx = 3 then _ else _) = _
    rw [if_neg a]
  rcases hR with ⟨r1, r2⟩ | ⟨r1, r2⟩ | ⟨r1, r2, -⟩ | ⟨r1, r2, -⟩ | ⟨r1, r2⟩
  · exact Or.inr ⟨by rw [r2]; decide, no (by rw [r1]; decide)⟩
  · exact Or.inl ⟨r2, yes r1⟩
  · exact Or.inr ⟨by rw [r2]; decide, no (by rw [r1]; decide)⟩
  · exact Or.inr ⟨by rw [r2]; decide, no (by rw [r1]; decide)⟩
  · exact Or.inr ⟨by rcases r2 with r2 | ⟨r2, -⟩ <;> rw [r2] <;> decide, no (by rw [r1]; decide)⟩
/-- what has been told so far -/
def DR (kx hx sx tx : Int32) (fh ff : Nat → Int32) (km hm ss : Int32) (sf sh : Nat → Int32) : Prop :=
  ∃ (nk nh sg : Nat) (fl ht : Nat → Nat), nk ≤ 6 ∧ nh ≤ 8 ∧ kx = nI nk ∧ km = nI nk ∧ hx = nI nh ∧ hm = nI nh ∧ sg < 6 ∧ sx = nI sg ∧ ((tx = 0 ∧ ss = -1 ∧ sg = 1) ∨ (tx = 1 ∧ ss = nI sg)) ∧
    (∀ a, a < nk → 1 ≤ fl a ∧ fl a < 10 ∧ ff a = nI (fl a) ∧ sf a = nI (fl a)) ∧ (∀ a, a < 6 → ht a < 64 ∧ fh a = nI (ht a)) ∧ (∀ a, a < nk → sh a = nI (ht a)) ∧ (∀ a b, a < 6 → b < 6 → bt6 (ht a) b = bt6 (ht b) a) ∧ (∀ a, nk ≤ a → ht a = 0)
/-- what an ITEM comes to: a fault at the same place, or all told alike and the next TOKEN the same -/
def IT (L e : Nat) (mb : Nat → Int32) (a ap ae b0 b1 b2 b3 b4 : Int32) (D : Prop) : Prop :=
  (a = 0 ∧ b4 = 1 ∧ b1 = ap) ∨ (a = 1 ∧ b4 = 0 ∧ ∃ q : Nat, e ≤ q ∧ q ≤ L ∧ ae = nI q ∧ f_X7_next (nI L) (nI q) mb = some (b0, b1, b2, b3) ∧ D)
theorem item_k {L p e : Nat} {t : Nat → Nat} {xb mb : Nat → Int32} {kx hx sx tx km hm ss : Int32} {fh ff sf sh : Nat → Int32} (hT : TXT L t xb mb) (he : e ≤ L) (hD : DR kx hx sx tx fh ff km hm ss sf sh) :
    ∃ a ap ae a3 a4 ak af b0 b1 b2 b3 b4 bk bm bss bf bh, f_X1_readKeeper (nI L) (nI p) (nI e) 1 (nI 107) kx xb ff = some (a, ap, ae, a3, a4, ak, af) ∧ f_X7_readItem (nI L) (nI e) (nI p) 1 (nI 107) 0 km hm ss mb sf sh = some (b0, b1, b2, b3, b4, bk, bm, bss, bf, bh) ∧
      IT L e mb a ap ae b0 b1 b2 b3 b4 (DR ak hx sx tx fh af bk bm bss bf bh) := by
  obtain ⟨nk, nh, sg, fl, ht, d1, d2, rfl, rfl, rfl, rfl, d3, rfl, d4, d5, d6, d7, d8, d9⟩ := hD
  by_cases z : nk = 6
  · refine ⟨0, nI p, nI e, 1, nI 107, nI nk, ff, nI e, nI p, 1, nI 107, 1, nI nk, nI nh, ss, sf, sh, ?_, ?_, Or.inl ⟨rfl, rfl, rfl⟩⟩
    · unfold f_X1_readKeeper
      rw [if_pos (show (6 : Int32) ≤ nI nk from nI_le (a := 6) (by omega) (by omega))]
    · unfold f_X7_readItem f_X7_mayBegin
      rw [if_pos rfl, if_neg (show ¬ nI 107 = 104 by decide), if_pos (show nI 107 = 107 from rfl), if_pos (show (6 : Int32) ≤ nI nk from nI_le (a := 6) (by omega) (by omega)), bs, if_pos rfl]
  · have mb1 : f_X7_mayBegin (nI nk) (nI nh) ss (nI 107) = some 1 := by
      unfold f_X7_mayBegin
      rw [if_neg (show ¬ nI 107 = 104 by decide), if_pos (show nI 107 = 107 from rfl), if_neg (show ¬ (6 : Int32) ≤ nI nk from nI_ge (b := 6) (by omega) (by omega))]
    obtain ⟨p2, e2, ex2, kx2, vx2, km2, vm2, n1, n2, n3, n4⟩ := num_both hT he (nI 107) 1 9
    rcases n4 with ⟨n4, n5⟩ | ⟨v, v1, v2, v3, n4, n5, -⟩
    · refine ⟨0, nI p2, ex2, kx2, vx2, nI nk, ff, nI e2, nI p2, km2, vm2, 1, nI nk + 1, nI nh, ss, upd sf nk 0, upd sh nk 0, ?_, ?_, Or.inl ⟨rfl, rfl, rfl⟩⟩
      · unfold f_X1_readKeeper
        rw [if_neg (show ¬ (6 : Int32) ≤ nI nk from nI_ge (b := 6) (by omega) (by omega)), n4, bs, if_pos rfl]
      · unfold f_X7_readItem f_X7_readKeeper
        rw [if_pos rfl, mb1, bs, if_neg (show ¬ (1 : Int32) = 0 by decide), n3, bs, if_pos (show nI 107 = 107 from rfl), n5, bs, if_neg (nG (by omega) (by omega)), if_neg (nG (by omega) (by omega)), nC (by omega), bs]
        rfl
    · have vl : v < 10 := by
        rcases Nat.lt_or_ge v 10 with q | q
        · exact q
        · exact absurd (nI_lt (a := 9) (b := v) (by omega) (by omega)) v3
      have v0 : 1 ≤ v := by
        rcases Nat.eq_zero_or_pos v with q | q
        · subst q; exact absurd (show nI 0 < 1 by decide) v2
        · exact q
      obtain ⟨p3, e3, ex3, kx3, vx3, km3, vm3, s1, s2, s3, s4⟩ := semi_both hT n2 (nI v)
      have tk := n5 (-1) (nm1 (by omega))
      rw [s3, bs] at tk
      have rk : f_X7_readKeeper (nI L) (nI e2) (nI p2) km2 vm2 0 (nI nk) sf mb sh = some (nI e3, nI p3, km3, vm3, 0, nI (nk + 1), upd sf nk (nI v), upd sh nk 0) := by
        unfold f_X7_readKeeper
        rw [tk, bs, if_neg (nG (by omega) (by omega)), if_neg (nG (by omega) (by omega)), nC (by omega), nI_1]
      have xk : f_X1_readKeeper (nI L) (nI p) (nI e) 1 (nI 107) (nI nk) xb ff = (f_X1_readSemicolon (nI L) (nI e2) (nI v) xb).bind fun u5 => if ¬ (u5.1 = 0 ∨ u5.1 = 1) then none else some (u5.1, u5.2.1, u5.2.2.1, u5.2.2.2.1, u5.2.2.2.2, nI (nk + 1), upd ff nk (nI v)) := by
        unfold f_X1_readKeeper f_X4_addKeeper
        rw [if_neg (show ¬ (6 : Int32) ≤ nI nk from nI_ge (b := 6) (by omega) (by omega)), n4, bs, if_neg (show ¬ (1 : Int32) = 0 by decide), put_in (by omega) (by omega), bs, bs, nI_1]
      have mk : f_X7_readItem (nI L) (nI e) (nI p) 1 (nI 107) 0 (nI nk) (nI nh) ss mb sf sh = if km3 = 3 then (f_X7_next (nI L) (nI e3) mb).bind fun u18 => some (u18.1, u18.2.1, u18.2.2.1, u18.2.2.2, 0, nI (nk + 1), nI nh, ss, upd sf nk (nI v), upd sh nk 0) else some (nI e3, nI p3, km3, vm3, 1, nI (nk + 1), nI nh, ss, upd sf nk (nI v), upd sh nk 0) := by
        unfold f_X7_readItem
        rw [if_pos rfl, mb1, bs, if_neg (show ¬ (1 : Int32) = 0 by decide), n3, bs, if_pos (show nI 107 = 107 from rfl), rk, bs, if_pos rfl]
      rcases s4 with ⟨q1, q2⟩ | ⟨q1, q2⟩
      · obtain ⟨p4, e4, ex4, kx4, vx4, km4, vm4, -, -, -, -, -, w, -⟩ := next_both hT s2 (nI v)
        refine ⟨1, nI p3, nI e3, kx3, vx3, nI (nk + 1), upd ff nk (nI v), nI e4, nI p4, km4, vm4, 0, nI (nk + 1), nI nh, ss, upd sf nk (nI v), upd sh nk 0, ?_, ?_, Or.inr ⟨rfl, rfl, e3, by omega, s2, rfl, w, ?_⟩⟩
        · rw [xk, q2, bs, if_neg (fun y => y (Or.inr rfl))]
        · rw [mk, if_pos q1, w, bs]
        · refine ⟨nk + 1, nh, sg, fun a => if a = nk then v else fl a, ht, by omega, d2, rfl, rfl, rfl, rfl, d3, rfl, d4, fun a ha => ?_, d6, fun a ha => ?_, d8, fun a ha => d9 a (by omega)⟩
          · show 1 ≤ (if a = nk then v else fl a) ∧ (if a = nk then v else fl a) < 10 ∧ upd ff nk (nI v) a = nI (if a = nk then v else fl a) ∧ upd sf nk (nI v) a = nI (if a = nk then v else fl a)
            by_cases y : a = nk
            · subst y
              rw [if_pos rfl, pk_us, pk_us]
              exact ⟨v0, vl, rfl, rfl⟩
            · rw [if_neg y, pk_un y, pk_un y]
              exact d5 a (by omega)
          · by_cases y : a = nk
            · subst y
              rw [pk_us, d9 a (Nat.le_refl _)]
              rfl
            · rw [pk_un y]
              exact d7 a (by omega)
      · refine ⟨0, nI p3, ex3, kx3, vx3, nI (nk + 1), upd ff nk (nI v), nI e3, nI p3, km3, vm3, 1, nI (nk + 1), nI nh, ss, upd sf nk (nI v), upd sh nk 0, ?_, ?_, Or.inl ⟨rfl, rfl, rfl⟩⟩
        · rw [xk, q2, bs, if_neg (fun y => y (Or.inl rfl))]
        · rw [mk, if_neg q1]
theorem item_s {L p e : Nat} {t : Nat → Nat} {xb mb : Nat → Int32} {kx hx sx tx km hm ss : Int32} {fh ff sf sh : Nat → Int32} (hT : TXT L t xb mb) (he : e ≤ L) (hD : DR kx hx sx tx fh ff km hm ss sf sh) :
    ∃ a ap ae a3 a4 as1 at1 b0 b1 b2 b3 b4 bk bm bss bf bh, f_X1_readSight (nI L) (nI p) (nI e) 1 (nI 115) sx tx xb = some (a, ap, ae, a3, a4, as1, at1) ∧ f_X7_readItem (nI L) (nI e) (nI p) 1 (nI 115) 0 km hm ss mb sf sh = some (b0, b1, b2, b3, b4, bk, bm, bss, bf, bh) ∧
      IT L e mb a ap ae b0 b1 b2 b3 b4 (DR kx hx as1 at1 fh ff bk bm bss bf bh) := by
  obtain ⟨nk, nh, sg, fl, ht, d1, d2, rfl, rfl, rfl, rfl, d3, rfl, d4, d5, d6, d7, d8, d9⟩ := hD
  rcases d4 with ⟨rfl, rfl, d4⟩ | ⟨rfl, rfl⟩
  · have mb1 : f_X7_mayBegin (nI nk) (nI nh) (-1) (nI 115) = some 1 := by
      unfold f_X7_mayBegin
      rw [if_neg (show ¬ nI 115 = 104 by decide), if_neg (show ¬ nI 115 = 107 by decide), if_pos (show nI 115 = 115 from rfl), if_neg (show ¬ (0 : Int32) ≤ -1 by decide)]
    obtain ⟨p2, e2, ex2, kx2, vx2, km2, vm2, n1, n2, n3, n4⟩ := num_both hT he (nI 115) 0 5
    rcases n4 with ⟨n4, n5⟩ | ⟨v, v1, v2, v3, n4, n5, -⟩
    · refine ⟨0, nI p2, ex2, kx2, vx2, nI sg, 0, nI e2, nI p2, km2, vm2, 1, nI nk, nI nh, 0, sf, sh, ?_, ?_, Or.inl ⟨rfl, rfl, rfl⟩⟩
      · unfold f_X1_readSight
        rw [if_pos rfl, n4, bs, if_pos rfl]
      · unfold f_X7_readItem
        rw [if_pos rfl, mb1, bs, if_neg (show ¬ (1 : Int32) = 0 by decide), n3, bs, if_neg (show ¬ nI 115 = 107 by decide), if_neg (show ¬ nI 115 = 104 by decide), n5, bs]
        rfl
    · have vl : v < 6 := by
        rcases Nat.lt_or_ge v 6 with q | q
        · exact q
        · exact absurd (nI_lt (a := 5) (b := v) (by omega) (by omega)) v3
      obtain ⟨p3, e3, ex3, kx3, vx3, km3, vm3, s1, s2, s3, s4⟩ := semi_both hT n2 (nI v)
      have tk := n5 (-1) (nm1 (by omega))
      rw [s3, bs] at tk
      have xk : f_X1_readSight (nI L) (nI p) (nI e) 1 (nI 115) (nI sg) 0 xb = (f_X1_readSemicolon (nI L) (nI e2) (nI v) xb).bind fun u5 => if ¬ (u5.1 = 0 ∨ u5.1 = 1) then none else some (u5.1, u5.2.1, u5.2.2.1, u5.2.2.2.1, u5.2.2.2.2, nI v, 1) := by
        unfold f_X1_readSight f_X4_tellSight
        rw [if_pos rfl, n4, bs, if_neg (show ¬ (1 : Int32) = 0 by decide), bs]
      have mk : f_X7_readItem (nI L) (nI e) (nI p) 1 (nI 115) 0 (nI nk) (nI nh) (-1) mb sf sh = if km3 = 3 then (f_X7_next (nI L) (nI e3) mb).bind fun u10 => some (u10.1, u10.2.1, u10.2.2.1, u10.2.2.2, 0, nI nk, nI nh, nI v, sf, sh) else some (nI e3, nI p3, km3, vm3, 1, nI nk, nI nh, nI v, sf, sh) := by
        unfold f_X7_readItem
        rw [if_pos rfl, mb1, bs, if_neg (show ¬ (1 : Int32) = 0 by decide), n3, bs, if_neg (show ¬ nI 115 = 107 by decide), if_neg (show ¬ nI 115 = 104 by decide), tk, bs, if_pos rfl]
      rcases s4 with ⟨q1, q2⟩ | ⟨q1, q2⟩
      · obtain ⟨p4, e4, ex4, kx4, vx4, km4, vm4, -, -, -, -, -, w, -⟩ := next_both hT s2 (nI v)
        refine ⟨1, nI p3, nI e3, kx3, vx3, nI v, 1, nI e4, nI p4, km4, vm4, 0, nI nk, nI nh, nI v, sf, sh, ?_, ?_, Or.inr ⟨rfl, rfl, e3, by omega, s2, rfl, w, ?_⟩⟩
        · rw [xk, q2, bs, if_neg (fun y => y (Or.inr rfl))]
        · rw [mk, if_pos q1, w, bs]
        · exact ⟨nk, nh, v, fl, ht, d1, d2, rfl, rfl, rfl, rfl, vl, rfl, Or.inr ⟨rfl, rfl⟩, d5, d6, d7, d8, d9⟩
      · refine ⟨0, nI p3, ex3, kx3, vx3, nI v, 1, nI e3, nI p3, km3, vm3, 1, nI nk, nI nh, nI v, sf, sh, ?_, ?_, Or.inl ⟨rfl, rfl, rfl⟩⟩
        · rw [xk, q2, bs, if_neg (fun y => y (Or.inl rfl))]
        · rw [mk, if_neg q1]
  · refine ⟨0, nI p, nI e, 1, nI 115, nI sg, 1, nI e, nI p, 1, nI 115, 1, nI nk, nI nh, nI sg, sf, sh, ?_, ?_, Or.inl ⟨rfl, rfl, rfl⟩⟩
    · unfold f_X1_readSight
      rw [if_neg (show ¬ (1 : Int32) = 0 by decide)]
    · unfold f_X7_readItem f_X7_mayBegin
      rw [if_pos rfl, if_neg (show ¬ nI 115 = 104 by decide), if_neg (show ¬ nI 115 = 107 by decide), if_pos (show nI 115 = 115 from rfl), if_pos (show (0 : Int32) ≤ nI sg from nI_le (a := 0) (by omega) (by omega)), bs, if_pos rfl]
theorem hate_lt {nk v : Nat} (hn : nk < 7) (h : ¬ nI nk - 1 < nI v) (hv : v ≤ 99) : v < nk := by
  rw [ltI, m1n nk hn, nT (by omega)] at h
  omega
def htu (ht : Nat → Nat) (v w : Nat) (a : Nat) : Nat := if a = w then ht w ||| 2 ^ v else if a = v then ht v ||| 2 ^ w else ht a
theorem htu_lt {ht : Nat → Nat} {v w : Nat} (hv : v < 6) (hw : w < 6) (h : ∀ a, a < 6 → ht a < 64) (a : Nat) (ha : a < 6) : htu ht v w a < 64 := by
  unfold htu
  by_cases q1 : a = w
  · rw [if_pos q1]; exact orbit_lt _ (h w hw) v hv
  · rw [if_neg q1]
    by_cases q2 : a = v
    · rw [if_pos q2]; exact orbit_lt _ (h v hv) w hw
    · rw [if_neg q2]; exact h a ha
theorem htu_bt {ht : Nat → Nat} {v w : Nat} (hv : v < 6) (hw : w < 6) (hvw : ¬ v = w) (h : ∀ a, a < 6 → ht a < 64) (a b : Nat) (ha : a < 6) (hb : b < 6) : bt6 (htu ht v w a) b = (bt6 (ht a) b || ((a == v && b == w) || (a == w && b == v))) := by
  unfold htu
  by_cases q1 : a = w
  · subst q1
    rw [if_pos rfl, orbit_bt _ (h a ha) v hv b hb]
    have : (a == v) = false := by simp; omega
    rw [this]
    simp
  · rw [if_neg q1]
    by_cases q2 : a = v
    · subst q2
      rw [if_pos rfl, orbit_bt _ (h a ha) w hw b hb]
      have : (a == w) = false := by simp; omega
      rw [this]
      simp
    · rw [if_neg q2]
      have e1 : (a == v) = false := by simp; omega
      have e2 : (a == w) = false := by simp; omega
      rw [e1, e2]
      simp
theorem addHate_x {fh : Nat → Int32} {ht : Nat → Nat} {nh v w : Nat} (hv : v < 6) (hw : w < 6) (hvw : ¬ v = w) (h : ∀ a, a < 6 → ht a < 64 ∧ fh a = nI (ht a)) :
    f_X4_addHate (nI nh) fh (nI v) (nI w) = some (nI (nh + 1), upd (upd fh v (nI (ht v ||| 2 ^ w))) w (nI (ht w ||| 2 ^ v))) := by
  obtain ⟨h1, h2⟩ := h v hv
  obtain ⟨h3, h4⟩ := h w hw
  unfold f_X4_addHate
  rw [hatersOf_in hv, bs, h2, orbit_eq _ h1 w hw, put_in hv (by omega), bs, hatersOf_in hw, bs, pk_un (Ne.symm hvw), h4, orbit_eq _ h3 v hv, put_in hw (by omega), bs, nI_1]
theorem item_h {L p e : Nat} {t : Nat → Nat} {xb mb : Nat → Int32} {kx hx sx tx km hm ss : Int32} {fh ff sf sh : Nat → Int32} (hT : TXT L t xb mb) (he : e ≤ L) (hD : DR kx hx sx tx fh ff km hm ss sf sh) :
    ∃ a ap ae a3 a4 ah af b0 b1 b2 b3 b4 bk bm bss bf bh, f_X1_readHate (nI L) (nI p) (nI e) 1 (nI 104) kx hx xb fh = some (a, ap, ae, a3, a4, ah, af) ∧ f_X7_readItem (nI L) (nI e) (nI p) 1 (nI 104) 0 km hm ss mb sf sh = some (b0, b1, b2, b3, b4, bk, bm, bss, bf, bh) ∧
      IT L e mb a ap ae b0 b1 b2 b3 b4 (DR kx ah sx tx af ff bk bm bss bf bh) := by
  obtain ⟨nk, nh, sg, fl, ht, d1, d2, rfl, rfl, rfl, rfl, d3, rfl, d4, d5, d6, d7, d8, d9⟩ := hD
  by_cases z : nh = 8
  · refine ⟨0, nI p, nI e, 1, nI 104, nI nh, fh, nI e, nI p, 1, nI 104, 1, nI nk, nI nh, ss, sf, sh, ?_, ?_, Or.inl ⟨rfl, rfl, rfl⟩⟩
    · unfold f_X1_readHate
      rw [if_pos (show (8 : Int32) ≤ nI nh from nI_le (a := 8) (by omega) (by omega))]
    · unfold f_X7_readItem f_X7_mayBegin
      rw [if_pos rfl, if_pos (show nI 104 = 104 from rfl), if_pos (show (8 : Int32) ≤ nI nh from nI_le (a := 8) (by omega) (by omega)), bs, if_pos rfl]
  · have n8' : ¬ (8 : Int32) ≤ nI nh := nI_ge (b := 8) (by omega) (by omega)
    have mb1 : f_X7_mayBegin (nI nk) (nI nh) ss (nI 104) = some 1 := by
      unfold f_X7_mayBegin
      rw [if_pos (show nI 104 = 104 from rfl), if_neg n8']
    obtain ⟨p2, e2, ex2, kx2, vx2, km2, vm2, n1, n2, n3, n4⟩ := num_both hT he (nI 104) 0 (nI nk - 1)
    -- the reference's item, by its reading of the two
    have mk : ∀ u : Int32 × Int32 × Int32 × Int32 × Int32 × Int32 × (Nat → Int32), f_X7_readHate (nI L) (nI e2) (nI p2) km2 vm2 0 (nI nk) (nI nh) mb sh = some u → f_X7_readItem (nI L) (nI e) (nI p) 1 (nI 104) 0 (nI nk) (nI nh) ss mb sf sh = if u.2.2.2.2.1 = 0 then (if u.2.2.1 = 3 then (f_X7_next (nI L) u.1 mb).bind fun u14 => some (u14.1, u14.2.1, u14.2.2.1, u14.2.2.2, 0, nI nk, u.2.2.2.2.2.1, ss, sf, u.2.2.2.2.2.2) else some (u.1, u.2.1, u.2.2.1, u.2.2.2.1, 1, nI nk, u.2.2.2.2.2.1, ss, sf, u.2.2.2.2.2.2)) else some (u.1, u.2.1, u.2.2.1, u.2.2.2.1, 1, nI nk, u.2.2.2.2.2.1, ss, sf, u.2.2.2.2.2.2) := fun u hu => by
      unfold f_X7_readItem
      rw [if_pos rfl, mb1, bs, if_neg (show ¬ (1 : Int32) = 0 by decide), n3, bs, if_neg (show ¬ nI 104 = 107 by decide), if_pos (show nI 104 = 104 from rfl), hu, bs]
    rcases n4 with ⟨n4, n5⟩ | ⟨v, v1, v2, v3, n4, n5, -⟩
    · refine ⟨0, nI p2, ex2, kx2, vx2, nI nh, fh, nI e2, nI p2, km2, vm2, 1, nI nk, nI nh + 1, ss, sf, sh, ?_, ?_, Or.inl ⟨rfl, rfl, rfl⟩⟩
      · unfold f_X1_readHate
        rw [if_neg n8', n4, bs, if_pos rfl]
      · have rh : f_X7_readHate (nI L) (nI e2) (nI p2) km2 vm2 0 (nI nk) (nI nh) mb sh = some (nI e2, nI p2, km2, vm2, 1, nI nh + 1, sh) := by
          unfold f_X7_readHate
          rw [n5, bs, takes_no, bs, if_neg (show ¬ (1 : Int32) = 0 by decide)]
        rw [mk _ rh, if_neg (show ¬ (1 : Int32) = 0 by decide)]
    · have vl := hate_lt (by omega) v3 v1
      obtain ⟨p3, e3, ex3, kx3, vx3, km3, vm3, m1, m2, m3, m4⟩ := num_both hT n2 (nI v) 0 (nI nk - 1)
      have tk := n5 (-1) (nm1 (by omega))
      rw [m3, bs] at tk
      rcases m4 with ⟨m4, m5⟩ | ⟨w, w1, w2, w3, m4, m5, m6⟩
      · refine ⟨0, nI p3, ex3, kx3, vx3, nI nh, fh, nI e3, nI p3, km3, vm3, 1, nI nk, nI nh + 1, ss, sf, sh, ?_, ?_, Or.inl ⟨rfl, rfl, rfl⟩⟩
        · unfold f_X1_readHate
          rw [if_neg n8', n4, bs, if_neg (show ¬ (1 : Int32) = 0 by decide), m4, bs, if_pos rfl]
        · have rh : f_X7_readHate (nI L) (nI e2) (nI p2) km2 vm2 0 (nI nk) (nI nh) mb sh = some (nI e3, nI p3, km3, vm3, 1, nI nh + 1, sh) := by
            unfold f_X7_readHate
            rw [tk, bs, m5, bs, if_neg (show ¬ (1 : Int32) = 0 by decide)]
          rw [mk _ rh, if_neg (show ¬ (1 : Int32) = 0 by decide)]
      · have wl' := hate_lt (by omega) w3 w1
        by_cases q : w = v
        · subst q
          refine ⟨0, nI p3, nI e3, kx3, nI w, nI nh, fh, nI e3, nI p3, km3, vm3, 1, nI nk, nI nh + 1, ss, sf, sh, ?_, ?_, Or.inl ⟨rfl, rfl, rfl⟩⟩
          · unfold f_X1_readHate
            rw [if_neg n8', n4, bs, if_neg (show ¬ (1 : Int32) = 0 by decide), m4, bs, if_neg (show ¬ (1 : Int32) = 0 by decide), if_pos rfl]
          · have rh : f_X7_readHate (nI L) (nI e2) (nI p2) km2 vm2 0 (nI nk) (nI nh) mb sh = some (nI e3, nI p3, km3, vm3, 1, nI nh + 1, sh) := by
              unfold f_X7_readHate
              rw [tk, bs, m6, bs, if_neg (show ¬ (1 : Int32) = 0 by decide)]
            rw [mk _ rh, if_neg (show ¬ (1 : Int32) = 0 by decide)]
        · have qI : ¬ nI w = nI v := nE (by omega) (by omega) q
          obtain ⟨p4, e4, ex4, kx4, vx4, km4, vm4, s1, s2, s3, s4⟩ := semi_both hT m2 (nI w)
          have tk2 := m5 (nI v) qI
          rw [s3, bs] at tk2
          have hlt : ∀ a, a < 6 → ht a < 64 := fun a ha => (d6 a ha).1
          have rh : f_X7_readHate (nI L) (nI e2) (nI p2) km2 vm2 0 (nI nk) (nI nh) mb sh = some (nI e4, nI p4, km4, vm4, 0, nI (nh + 1), upd (upd sh v (nI (ht v ||| 2 ^ w))) w (nI (ht w ||| 2 ^ v))) := by
            unfold f_X7_readHate
            rw [tk, bs, tk2, bs, if_pos rfl, if_neg (nG (a := v) (by omega) (by omega)), if_neg (nG (a := v) (by omega) (by omega)), if_neg (nG (a := w) (by omega) (by omega)), if_neg (nG (a := w) (by omega) (by omega)), nC (a := v) (by omega), nC (a := w) (by omega), d7 v vl, orbit_eq _ (hlt v (by omega)) w (by omega), pk_un q, d7 w wl', orbit_eq _ (hlt w (by omega)) v (by omega), nI_1]
          have xk : f_X1_readHate (nI L) (nI p) (nI e) 1 (nI 104) (nI nk) (nI nh) xb fh = (f_X1_readSemicolon (nI L) (nI e3) (nI w) xb).bind fun u8 => if ¬ (u8.1 = 0 ∨ u8.1 = 1) then none else some (u8.1, u8.2.1, u8.2.2.1, u8.2.2.2.1, u8.2.2.2.2, nI (nh + 1), upd (upd fh v (nI (ht v ||| 2 ^ w))) w (nI (ht w ||| 2 ^ v))) := by
            unfold f_X1_readHate
            rw [if_neg n8', n4, bs, if_neg (show ¬ (1 : Int32) = 0 by decide), m4, bs, if_neg (show ¬ (1 : Int32) = 0 by decide), if_neg qI, addHate_x (by omega) (by omega) (fun y => q y.symm) d6, bs]
          rcases s4 with ⟨q1, q2⟩ | ⟨q1, q2⟩
          · obtain ⟨p5, e5, ex5, kx5, vx5, km5, vm5, -, -, -, -, -, y, -⟩ := next_both hT s2 (nI w)
            refine ⟨1, nI p4, nI e4, kx4, vx4, nI (nh + 1), upd (upd fh v (nI (ht v ||| 2 ^ w))) w (nI (ht w ||| 2 ^ v)), nI e5, nI p5, km5, vm5, 0, nI nk, nI (nh + 1), ss, sf, upd (upd sh v (nI (ht v ||| 2 ^ w))) w (nI (ht w ||| 2 ^ v)), ?_, ?_, Or.inr ⟨rfl, rfl, e4, by omega, s2, rfl, y, ?_⟩⟩
            · rw [xk, q2, bs, if_neg (fun y => y (Or.inr rfl))]
            · rw [mk _ rh, if_pos rfl, if_pos q1, y, bs]
            · have up : ∀ (g : Nat → Int32) (a : Nat), (a < nk → g a = nI (ht a)) → (nk ≤ a → a < 6 → g a = nI (ht a)) → a < 6 → upd (upd g v (nI (ht v ||| 2 ^ w))) w (nI (ht w ||| 2 ^ v)) a = nI (htu ht v w a) := fun g a h1 h2 h3 => by
                unfold htu
                by_cases y1 : a = w
                · subst y1; rw [pk_us, if_pos rfl]
                · rw [pk_un y1, if_neg y1]
                  by_cases y2 : a = v
                  · subst y2; rw [pk_us, if_pos rfl]
                  · rw [pk_un y2, if_neg y2]
                    by_cases y3 : a < nk
                    · exact h1 y3
                    · exact h2 (by omega) h3
              refine ⟨nk, nh + 1, sg, fl, htu ht v w, d1, by omega, rfl, rfl, rfl, rfl, d3, rfl, d4, d5, fun a ha => ⟨htu_lt (by omega) (by omega) hlt a ha, up fh a (fun _ => (d6 a ha).2) (fun _ _ => (d6 a ha).2) ha⟩, fun a ha => up sh a (fun _ => d7 a ha) (fun y _ => by omega) (by omega), fun a b ha hb => ?_, fun a ha => ?_⟩
              · rw [htu_bt (by omega) (by omega) (fun y => q y.symm) hlt a b ha hb, htu_bt (by omega) (by omega) (fun y => q y.symm) hlt b a hb ha, d8 a b ha hb]
                cases bt6 (ht b) a
                · cases (a == v) <;> cases (b == w) <;> cases (a == w) <;> cases (b == v) <;> rfl
                · rfl
              · unfold htu
                rw [if_neg (by omega), if_neg (by omega)]
                exact d9 a ha
          · refine ⟨0, nI p4, ex4, kx4, vx4, nI (nh + 1), upd (upd fh v (nI (ht v ||| 2 ^ w))) w (nI (ht w ||| 2 ^ v)), nI e4, nI p4, km4, vm4, 1, nI nk, nI (nh + 1), ss, sf, upd (upd sh v (nI (ht v ||| 2 ^ w))) w (nI (ht w ||| 2 ^ v)), ?_, ?_, Or.inl ⟨rfl, rfl, rfl⟩⟩
            · rw [xk, q2, bs, if_neg (fun y => y (Or.inl rfl))]
            · rw [mk _ rh, if_pos rfl, if_neg q1]
