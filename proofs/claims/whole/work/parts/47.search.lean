/-! ===== 47.search: the class's search and the reference's are that search ===== -/
def okf (n : Nat) (ht : Nat → Nat) (u c : Nat) : Bool := AL n (okr n u ht) c
def sff (n sg : Nat) (fl : Nat → Nat) (safe : Bool) (v : Nat) : Bool := !safe || LK n sg (fun r => fl (P n v r)) == 0
/-- the coast as told, in numbers -/
def Told6 (n sg : Nat) (fl ht : Nat → Nat) : Prop := n < 7 ∧ sg < 6 ∧ (∀ a, a < n → 1 ≤ fl a ∧ fl a < 10) ∧ (∀ a, a < n → ht a < 64) ∧ ∀ a b, a < n → b < n → bt6 (ht a) b = bt6 (ht b) a
def b0' (s : Nat) : BS := b0 s (fun _ => 0) (fun _ => 0)
def BEi (n sg : Nat) (fl ht : Nat → Nat) (safe : Bool) (s i : Nat) : BS := bI (CH n) (okf n ht) (AF n) (sff n sg fl safe) i (b0' s)
def BE (n sg : Nat) (fl ht : Nat → Nat) (safe : Bool) (s : Nat) : BS := BEi n sg fl ht safe s (fac n)
theorem bI_stay {C : Nat} {ok : Nat → Nat → Bool} {af : Nat → Nat → Nat} {sf : Nat → Bool} {S : BS} {i : Nat} (h : (bI C ok af sf i S).2.2.2 ≤ i) : ∀ k, bI C ok af sf (i + k) S = bI C ok af sf i S
  | 0 => rfl
  | k + 1 => by
    have ih := bI_stay h k
    show (if i + k < (bI C ok af sf (i + k) S).2.2.2 then _ else _) = _
    rw [ih, if_neg (by omega)]
    exact ih
theorem bD_some {S : BS} {v d : Nat} (h : S.1 v = some d) : bD S v = d := by unfold bD; rw [h]; rfl
theorem af_ok (n : Nat) (hn : n < 7) : ∀ u c, u < fac n → c < CH n → AF n u c < fac n := fun _ _ hu _ => AF_lt hn hu
-- what the class's rows hold
def RX (N : Nat) (sf : Nat → Bool) (S : BS) (mo fi qu : Nat → Int32) (q : Int32) : Prop :=
  q = nI S.2.2.2 ∧ (∀ v d, v < N → S.1 v = some d → mo v = nI d ∧ d ≤ S.2.2.2 ∧ fi v = nI (S.2.1 v) ∧ S.2.1 v < 32) ∧ (∀ v, v < N → S.1 v = none → mo v = -9 ∨ (mo v = -8 ∧ sf v = false)) ∧ ∀ j, j < S.2.2.2 → qu j = nI (S.2.2.1 j)
theorem inv_q {C N s i m : Nat} {ok : Nat → Nat → Bool} {af : Nat → Nat → Nat} {sf : Nat → Bool} {S : BS} (h : BInv C ok af sf N s i m S) : S.2.2.2 ≤ N := pig N S.2.2.2 S.2.2.1 h.1 h.2.1
theorem rx_enter {N v d f : Nat} {sf : Nat → Bool} {S : BS} {mo fi qu : Nat → Int32} (hN : N ≤ 720) (hv : v < N) (hq : S.2.2.2 < N) (hd : d ≤ S.2.2.2 + 1) (hf : f < 32) (h : RX N sf S mo fi qu (nI S.2.2.2)) :
    ∃ mo' fi' qu', f_X2_enter (nI S.2.2.2) mo fi qu (nI v) (nI d) (nI f) = some (nI (S.2.2.2 + 1), mo', fi', qu') ∧ RX N sf (bEnter S v d f) mo' fi' qu' (nI (S.2.2.2 + 1)) := by
  obtain ⟨-, h2, h3, h4⟩ := h
  refine ⟨upd mo v (nI d), upd fi v (nI f), upd qu S.2.2.2 (nI v), ?_, rfl, fun x e hx he => ?_, fun x hx he => ?_, fun j hj => ?_⟩
  · unfold f_X2_enter
    rw [put_in (by omega) (by omega), bs, put_in (by omega) (by omega), bs, put_in (by omega) (by omega), bs, nI_1]
  · by_cases c : x = v
    · subst c
      have he : upO S.1 x d x = some e := he
      unfold upO at he
      rw [if_pos rfl] at he
      have hde : d = e := by cases he; rfl
      subst hde
      have hF : (bEnter S x d f).2.1 x = f := by show upN S.2.1 x f x = f; unfold upN; rw [if_pos rfl]
      rw [pk_us, pk_us, hF]
      exact ⟨rfl, hd, rfl, hf⟩
    · have he : upO S.1 v d x = some e := he
      unfold upO at he
      rw [if_neg c] at he
      have hF : (bEnter S v d f).2.1 x = S.2.1 x := by show upN S.2.1 v f x = _; unfold upN; rw [if_neg c]
      rw [pk_un c, pk_un c, hF]
      obtain ⟨g1, g2, g3, g4⟩ := h2 x e hx he
      exact ⟨g1, by show e ≤ S.2.2.2 + 1; omega, g3, g4⟩
  · by_cases c : x = v
    · subst c
      have he : upO S.1 x d x = none := he
      unfold upO at he
      rw [if_pos rfl] at he
      cases he
    · have he : upO S.1 v d x = none := he
      unfold upO at he
      rw [if_neg c] at he
      rw [pk_un c]
      exact h3 x hx he
  · have hj : j < S.2.2.2 + 1 := hj
    show upd qu S.2.2.2 (nI v) j = nI (upN S.2.2.1 S.2.2.2 v j)
    unfold upN
    by_cases c : j = S.2.2.2
    · subst c; rw [pk_us, if_pos rfl]
    · rw [pk_un c, if_neg c]; exact h4 j (by omega)
theorem reach_x {n sg v d f : Nat} {fl : Nat → Nat} {safe : Bool} {S : BS} {fk fc ff mo fi qu : Nat → Int32} (hT : Tab n fk fc) (hn : n < 7) (hsg : sg < 6) (hff : ∀ a, a < n → ff a = nI (fl a)) (hfl : ∀ a, a < n → fl a < 10) (hv : v < fac n)
    (hq : S.1 v = none → sff n sg fl safe v = true → S.2.2.2 < fac n) (hq2 : S.2.2.2 ≤ fac n) (hd : d ≤ S.2.2.2 + 1) (hf : f < 32) (h : RX (fac n) (sff n sg fl safe) S mo fi qu (nI S.2.2.2)) :
    ∃ S' mo' fi' qu', S' = (if S.1 v = none ∧ sff n sg fl safe v = true then bEnter S v d f else S) ∧ f_X2_reach (if safe = true then 1 else 0) (nI S.2.2.2) mo (nI n) (nI sg) fk ff fi qu (nI v) (nI d) (nI f) = some (nI S'.2.2.2, mo', fi', qu') ∧ RX (fac n) (sff n sg fl safe) S' mo' fi' qu' (nI S'.2.2.2) := by
  have h720 := fac_le n hn
  unfold f_X2_reach
  rw [item_in (by omega) (by omega), bs]
  have hlk : f_X3_likes (nI n) (nI sg) fk ff (nI v) = some (nI (LK n sg (fun r => fl (P n v r)))) := likes_x hn hsg (fun r hr => flashAt_t hT hn hv hr hff) (fun r hr => hfl _ (P_lt hn hv hr))
  have hLK := LK_le (sg := sg) (col := fun r => fl (P n v r)) hn
  cases e : S.1 v with
  | some dv =>
    obtain ⟨g1, g2, -, -⟩ := h.2.1 v dv hv e
    refine ⟨S, mo, fi, qu, by rw [if_neg (by simp)], ?_, h⟩
    rw [g1, if_neg (n9 (by omega))]
  | none =>
    rcases h.2.2.1 v hv e with g | ⟨g, gs⟩
    · rw [g, if_pos rfl]
      cases safe with
      | false =>
        have hs : sff n sg fl false v = true := rfl
        obtain ⟨mo', fi', qu', a1, a2⟩ := rx_enter h720 hv (hq e hs) hd hf h
        refine ⟨bEnter S v d f, mo', fi', qu', by rw [if_pos ⟨rfl, hs⟩], ?_, a2⟩
        rw [if_neg (show ¬ (false = true) by decide), if_pos rfl, a1, bs]
        rfl
      | true =>
        rw [if_pos (show true = true from rfl), if_neg (show ¬ (1 : Int32) = 0 by decide), hlk, bs]
        by_cases z : LK n sg (fun r => fl (P n v r)) = 0
        · have hs : sff n sg fl true v = true := by unfold sff; rw [z]; rfl
          obtain ⟨mo', fi', qu', a1, a2⟩ := rx_enter h720 hv (hq e hs) hd hf h
          refine ⟨bEnter S v d f, mo', fi', qu', by rw [if_pos ⟨rfl, hs⟩], ?_, a2⟩
          rw [z, if_pos (show nI 0 ≤ 0 by decide), a1, bs]
          rfl
        · have hs : sff n sg fl true v = false := by unfold sff; simp [z]
          refine ⟨S, upd mo v (-8), fi, qu, by rw [if_neg (by rw [hs]; simp)], ?_, rfl, fun x dx hx hdx => ?_, fun x hx hdx => ?_, h.2.2.2⟩
          · rw [if_neg (nI_nle (by omega) (by omega)), put_in (by omega) (by omega), bs]
          · have c : x ≠ v := fun c => by rw [c, e] at hdx; cases hdx
            rw [pk_un c]
            exact h.2.1 x dx hx hdx
          · by_cases c : x = v
            · subst c; rw [pk_us]; exact Or.inr ⟨rfl, hs⟩
            · rw [pk_un c]; exact h.2.2.1 x hx hdx
    · refine ⟨S, mo, fi, qu, by rw [if_neg (by rw [gs]; simp)], ?_, h⟩
      rw [g, if_neg (by decide)]
theorem step_loop {n sg s i : Nat} {fl ht : Nat → Nat} {safe : Bool} {S0 : BS} {fk fc ff : Nat → Int32} {k : Int32 → Int32 → (Nat → Int32) → (Nat → Int32) → (Nat → Int32) → Option (Int32 × (Nat → Int32) × (Nat → Int32) × (Nat → Int32))}
    (hT : Tab n fk fc) (hC : Told6 n sg fl ht) (hff : ∀ a, a < n → ff a = nI (fl a)) (hi : i < S0.2.2.2) (h0 : BInv (CH n) (okf n ht) (AF n) (sff n sg fl safe) (fac n) s i 0 S0) :
    ∀ (d f c : Nat) (mo fi qu : Nat → Int32), CH n = c + d → 1 ≤ c → d < f → RX (fac n) (sff n sg fl safe) (bU (okf n ht) (AF n) (sff n sg fl safe) (S0.2.2.1 i) (c - 1) S0) mo fi qu (nI (bU (okf n ht) (AF n) (sff n sg fl safe) (S0.2.2.1 i) (c - 1) S0).2.2.2) →
      ∃ y mo' fi' qu', RX (fac n) (sff n sg fl safe) (bU (okf n ht) (AF n) (sff n sg fl safe) (S0.2.2.1 i) (CH n - 1) S0) mo' fi' qu' (nI (bU (okf n ht) (AF n) (sff n sg fl safe) (S0.2.2.1 i) (CH n - 1) S0).2.2.2) ∧
        lp_X2_step_L23 (if safe = true then 1 else 0) (nI n) (nI sg) fk fc ff (nI (S0.2.2.1 i)) (nI (wl (okr n (S0.2.2.1 i) ht) (n - 1))) (nI (bD S0 (S0.2.2.1 i) + 1)) k f (nI c) (nI (bU (okf n ht) (AF n) (sff n sg fl safe) (S0.2.2.1 i) (c - 1) S0).2.2.2) mo fi qu = k y (nI (bU (okf n ht) (AF n) (sff n sg fl safe) (S0.2.2.1 i) (CH n - 1) S0).2.2.2) mo' fi' qu' := by
  obtain ⟨hn, hsg, hfl, hht, hsym⟩ := hC
  have h720 := fac_le n hn
  have hCl := CH_le n hn
  have hu : S0.2.2.1 i < fac n := h0.1 i hi
  intro d
  induction d with
  | zero =>
    intro f c mo fi qu hc h1 hf hR
    obtain ⟨f, rfl⟩ := pred1 hf
    unfold lp_X2_step_L23
    have e : c = CH n := by omega
    subst e
    refine ⟨nI (CH n), mo, fi, qu, hR, ?_⟩
    rw [changes_x n hn, bs, if_pos (nI_le (by omega) (by omega))]
  | succ d ih =>
    intro f c mo fi qu hc h1 hf hR
    obtain ⟨f, rfl⟩ := pred1 (Nat.lt_of_le_of_lt (Nat.zero_le _) hf)
    obtain ⟨c', rfl⟩ := pred1 (show 0 < c by omega)
    rw [Nat.add_sub_cancel] at hR
    obtain ⟨T, hTd⟩ : ∃ T, T = bU (okf n ht) (AF n) (sff n sg fl safe) (S0.2.2.1 i) c' S0 := ⟨_, rfl⟩
    obtain ⟨j1, j2, j3⟩ := bInv_U (CH n) (okf n ht) (AF n) (sff n sg fl safe) hi (af_ok n hn) h0 c' (by omega)
    obtain ⟨k1, k2, k3⟩ := bInv_U (CH n) (okf n ht) (AF n) (sff n sg fl safe) hi (af_ok n hn) h0 (c' + 1) (by omega)
    have hnext : bU (okf n ht) (AF n) (sff n sg fl safe) (S0.2.2.1 i) (c' + 1) S0 = bC (okf n ht) (AF n) (sff n sg fl safe) (S0.2.2.1 i) (c' + 1) T := by rw [hTd]; rfl
    have ih' := ih f (c' + 2)
    rw [show c' + 2 - 1 = c' + 1 by omega] at ih'
    rw [hnext] at ih' k1 k2 k3
    rw [← hTd] at hR j1 j2 j3
    rw [Nat.add_sub_cancel, ← hTd]
    unfold lp_X2_step_L23
    rw [changes_x n hn, bs, if_neg (nI_ge (by omega) (by omega)), allows_x _ (wl_lt _ _ (by omega)) _ (by omega), bs, alB_AL _ hn (by omega), nI_1]
    have hok : AL n (okr n (S0.2.2.1 i) ht) (c' + 1) = okf n ht (S0.2.2.1 i) (c' + 1) := rfl
    rw [hok]
    cases hb : okf n ht (S0.2.2.1 i) (c' + 1)
    · have e : bC (okf n ht) (AF n) (sff n sg fl safe) (S0.2.2.1 i) (c' + 1) T = T := by unfold bC; rw [if_neg (by rw [hb]; simp)]
      rw [e] at ih'
      rw [if_neg (show ¬ (false = true) by decide), if_pos rfl]
      exact ih' mo fi qu (by omega) (by omega) (by omega) hR
    · rw [if_pos (show true = true from rfl), if_neg (show ¬ (1 : Int32) = 0 by decide)]
      have hD : bD T (S0.2.2.1 i) = bD S0 (S0.2.2.1 i) := by
        rw [hTd]
        have gen : ∀ m, m < CH n → bD (bU (okf n ht) (AF n) (sff n sg fl safe) (S0.2.2.1 i) m S0) (S0.2.2.1 i) = bD S0 (S0.2.2.1 i) := by
          intro m
          induction m with
          | zero => intro _; rfl
          | succ m ihm =>
            intro hm
            have ihm := ihm (by omega)
            obtain ⟨l1, l2, l3⟩ := bInv_U (CH n) (okf n ht) (AF n) (sff n sg fl safe) hi (af_ok n hn) h0 m (by omega)
            show bD (bC (okf n ht) (AF n) (sff n sg fl safe) (S0.2.2.1 i) (m + 1) (bU (okf n ht) (AF n) (sff n sg fl safe) (S0.2.2.1 i) m S0)) (S0.2.2.1 i) = _
            unfold bC
            split
            · rename_i hz
              have hne : S0.2.2.1 i ≠ AF n (S0.2.2.1 i) (m + 1) := fun z => by
                exact (l1.2.2.1 (S0.2.2.1 i)).mpr ⟨i, l2, l3⟩ ((congrArg (bU (okf n ht) (AF n) (sff n sg fl safe) (S0.2.2.1 i) m S0).1 z).trans hz.2.1)
              rw [← ihm]
              show (upO _ (AF n (S0.2.2.1 i) (m + 1)) _ (S0.2.2.1 i)).getD 0 = _
              unfold upO
              rw [if_neg hne]
              rfl
            · exact ihm
        exact gen c' (by omega)
      have hvis : T.1 (S0.2.2.1 i) ≠ none := (j1.2.2.1 _).mpr ⟨i, j2, j3⟩
      have hso : T.1 (S0.2.2.1 i) = some (bD T (S0.2.2.1 i)) := by
        unfold bD
        cases e : T.1 (S0.2.2.1 i) with
        | none => exact absurd e hvis
        | some d => rfl
      obtain ⟨r1, r2, r3, r4⟩ := hR.2.1 _ _ hu hso
      have hv : AF n (S0.2.2.1 i) (c' + 1) < fac n := AF_lt hn hu
      have hqn : T.1 (AF n (S0.2.2.1 i) (c' + 1)) = none → sff n sg fl safe (AF n (S0.2.2.1 i) (c' + 1)) = true → T.2.2.2 < fac n := fun z1 z2 => by
        have := inv_q k1
        unfold bC at this
        rw [if_pos ⟨hb, z1, z2⟩] at this
        have this : T.2.2.2 + 1 ≤ fac n := this
        omega
      obtain ⟨ff1, hff1⟩ : ∃ x, x = (if bD T (S0.2.2.1 i) = 0 then c' + 1 else T.2.1 (S0.2.2.1 i)) := ⟨_, rfl⟩
      have hf32 : ff1 < 32 := by rw [hff1]; split <;> omega
      obtain ⟨S', mo', fi', qu', e1, e2, e3⟩ := reach_x (v := AF n (S0.2.2.1 i) (c' + 1)) (d := bD T (S0.2.2.1 i) + 1) (f := ff1) hT hn hsg hff (fun a ha => (hfl a ha).2) hv hqn (inv_q j1) (by omega) hf32 hR
      have eS : S' = bC (okf n ht) (AF n) (sff n sg fl safe) (S0.2.2.1 i) (c' + 1) T := by
        rw [e1]
        unfold bC
        rw [← hff1]
        by_cases z : T.1 (AF n (S0.2.2.1 i) (c' + 1)) = none ∧ sff n sg fl safe (AF n (S0.2.2.1 i) (c' + 1)) = true
        · rw [if_pos z, if_pos ⟨hb, z.1, z.2⟩]
        · rw [if_neg z, if_neg (fun y => z ⟨y.2.1, y.2.2⟩)]
      rw [← eS] at ih'
      have fin := ih' mo' fi' qu' (by omega) (by omega) (by omega) e3
      rw [hD] at hff1 e2
      by_cases z0 : bD S0 (S0.2.2.1 i) = 0
      · rw [if_pos z0] at hff1
        rw [hff1, z0] at e2
        rw [z0] at fin
        rw [z0, if_pos (show nI (0 + 1) = 1 by decide), after_x hT hn hu (by omega), bs, e2, bs]
        exact fin
      · rw [if_neg z0] at hff1
        have hr2 : bD S0 (S0.2.2.1 i) ≤ 720 := by have := inv_q j1; rw [hD] at r2; omega
        rw [if_neg (show ¬ nI (bD S0 (S0.2.2.1 i) + 1) = 1 from by rw [show (1 : Int32) = nI 1 from rfl, nEq (by omega) (by omega)]; omega), item_in (by omega) (by omega), bs, after_x hT hn hu (by omega), bs, r3, ← hff1, e2, bs]
        exact fin
theorem fill_loop7 {N : Nat} {v : Int32} {k : Int32 → (Nat → Int32) → Option (Nat → Int32)} (hN : N < 4000) : ∀ (d f j : Nat) (a : Nat → Int32), N = j + d → d < f → (∀ i, i < j → a i = v) → ∃ y a', (∀ i, i < N → a' i = v) ∧ lp_J7_fill_53178_L5 N v (nI N) k f (nI j) a = k y a' := by
  intro d
  induction d with
  | zero =>
    intro f j a hj hf ha
    obtain ⟨f, rfl⟩ := pred1 hf
    unfold lp_J7_fill_53178_L5
    refine ⟨nI j, a, fun i hi => ha i (by omega), ?_⟩
    rw [if_pos (nI_le (by omega) (by omega))]
  | succ d ih =>
    intro f j a hj hf ha
    obtain ⟨f, rfl⟩ := pred1 (Nat.lt_of_le_of_lt (Nat.zero_le _) hf)
    unfold lp_J7_fill_53178_L5
    rw [if_neg (nI_ge (by omega) (by omega)), if_neg (nG (by omega) (by omega)), nC (by omega), nI_1]
    refine ih f (j + 1) _ (by omega) (by omega) (fun i hi => ?_)
    by_cases e : i = j
    · subst e; rw [pk_us]
    · rw [pk_un e]; exact ha i (by omega)
theorem fill7 {N : Nat} {v : Int32} (hN : N < 4000) (a : Nat → Int32) : ∃ a', (∀ i, i < N → a' i = v) ∧ f_J7_fill_53178 N a v = some a' := by
  unfold f_J7_fill_53178
  obtain ⟨y, a', h1, h2⟩ := fill_loop7 (v := v) (k := fun _ y4 => some y4) hN N FU 0 a (by omega) (by show _ < 4096; omega) (fun i hi => by omega)
  exact ⟨a', h1, h2⟩
/-- what a search of the class's has found -/
def Found (n sg : Nat) (fl ht : Nat → Nat) (safe : Bool) (s : Nat) (mo fi : Nat → Int32) : Prop :=
  ∀ v, v < fac n → match (BE n sg fl ht safe s).1 v with
    | some d => mo v = nI d ∧ d ≤ 720 ∧ fi v = nI ((BE n sg fl ht safe s).2.1 v) ∧ (BE n sg fl ht safe s).2.1 v < 32
    | none => mo v = -9 ∨ mo v = -8
theorem spread_loop {n sg s : Nat} {fl ht : Nat → Nat} {safe : Bool} {fk fc ff fh : Nat → Int32} {k : Int32 → Int32 → (Nat → Int32) → (Nat → Int32) → (Nat → Int32) → Option (Int32 × Int32 × (Nat → Int32) × (Nat → Int32) × (Nat → Int32))}
    (hT : Tab n fk fc) (hC : Told6 n sg fl ht) (hff : ∀ a, a < n → ff a = nI (fl a)) (hfh : ∀ a, a < n → fh a = nI (ht a)) (hs : s < fac n) :
    ∀ (d f i : Nat) (mo fi qu : Nat → Int32), 720 = i + d → d < f → RX (fac n) (sff n sg fl safe) (BEi n sg fl ht safe s i) mo fi qu (nI (BEi n sg fl ht safe s i).2.2.2) →
      ∃ y q mo' fi' qu', Found n sg fl ht safe s mo' fi' ∧ lp_X2_spread_L37 (if safe = true then 1 else 0) (nI n) (nI sg) fk fh fc ff k f (nI i) (nI (BEi n sg fl ht safe s i).2.2.2) mo fi qu = k y q mo' fi' qu' := by
  obtain ⟨hn, hsg, hfl, hht, hsym⟩ := id hC
  have h720 := fac_le n hn
  have hCl := CH_le n hn
  have hI := fun i => bInv_I (CH n) (okf n ht) (AF n) (sff n sg fl safe) hCl.2 (af_ok n hn) (bInv_0 (CH n) (okf n ht) (AF n) (sff n sg fl safe) (F := fun _ => 0) (Q := fun _ => 0) hs) i
  have hqi : ∀ i, (BEi n sg fl ht safe s i).2.2.2 ≤ fac n := fun i => by
    rcases Nat.lt_or_ge (BEi n sg fl ht safe s i).2.2.2 i with z | z
    · exact inv_q ((hI i).2 z)
    · exact inv_q ((hI i).1 z)
  have hend : ∀ (i : Nat) (mo fi qu : Nat → Int32), (BEi n sg fl ht safe s i).2.2.2 ≤ i → RX (fac n) (sff n sg fl safe) (BEi n sg fl ht safe s i) mo fi qu (nI (BEi n sg fl ht safe s i).2.2.2) → Found n sg fl ht safe s mo fi := by
    intro i mo fi qu hle hR v hv
    have e : BE n sg fl ht safe s = BEi n sg fl ht safe s i := by
      rcases Nat.le_total i (fac n) with z | z
      · have := bI_stay (C := CH n) (ok := okf n ht) (af := AF n) (sf := sff n sg fl safe) (S := b0' s) (i := i) hle (fac n - i)
        rw [show i + (fac n - i) = fac n by omega] at this
        exact this
      · have := bI_stay (C := CH n) (ok := okf n ht) (af := AF n) (sf := sff n sg fl safe) (S := b0' s) (i := fac n) (hqi (fac n)) (i - fac n)
        rw [show fac n + (i - fac n) = i by omega] at this
        exact this.symm
    rw [e]
    cases ed : (BEi n sg fl ht safe s i).1 v with
    | some dd =>
      obtain ⟨g1, g2, g3, g4⟩ := hR.2.1 v dd hv ed
      have := hqi i
      exact ⟨g1, by omega, g3, g4⟩
    | none =>
      rcases hR.2.2.1 v hv ed with g | ⟨g, -⟩
      · exact Or.inl g
      · exact Or.inr g
  intro d
  induction d with
  | zero =>
    intro f i mo fi qu hi hf hR
    obtain ⟨f, rfl⟩ := pred1 hf
    have := hqi i
    refine ⟨nI i, nI (BEi n sg fl ht safe s i).2.2.2, mo, fi, qu, hend i mo fi qu (by omega) hR, ?_⟩
    unfold lp_X2_spread_L37
    rw [if_pos (nI_le (by omega) (by omega))]
  | succ d ih =>
    intro f i mo fi qu hi hf hR
    obtain ⟨f, rfl⟩ := pred1 (Nat.lt_of_le_of_lt (Nat.zero_le _) hf)
    have hq := hqi i
    rcases Nat.lt_or_ge i (BEi n sg fl ht safe s i).2.2.2 with z | z
    · have hb : BInv (CH n) (okf n ht) (AF n) (sff n sg fl safe) (fac n) s i 0 (BEi n sg fl ht safe s i) := (hI i).1 (Nat.le_of_lt z)
      have hu := hb.1 i z
      have hso : (BEi n sg fl ht safe s i).1 ((BEi n sg fl ht safe s i).2.2.1 i) = some (bD (BEi n sg fl ht safe s i) ((BEi n sg fl ht safe s i).2.2.1 i)) := by
        have hvis := (hb.2.2.1 ((BEi n sg fl ht safe s i).2.2.1 i)).mpr ⟨i, z, rfl⟩
        unfold bD
        cases e : (BEi n sg fl ht safe s i).1 ((BEi n sg fl ht safe s i).2.2.1 i) with
        | none => exact absurd e hvis
        | some d => rfl
      obtain ⟨r1, r2, r3, r4⟩ := hR.2.1 _ _ hu hso
      obtain ⟨y, mo', fi', qu', e1, e2⟩ := step_loop (k := fun _ y14 y15 y16 y17 => some (y14, y15, y16, y17)) (safe := safe) hT hC hff z hb (CH n - 1) FU 1 mo fi qu (by omega) (by omega) (by show _ < 4096; omega) hR
      have hnx : BEi n sg fl ht safe s (i + 1) = bU (okf n ht) (AF n) (sff n sg fl safe) ((BEi n sg fl ht safe s i).2.2.1 i) (CH n - 1) (BEi n sg fl ht safe s i) := by
        show (if i < (BEi n sg fl ht safe s i).2.2.2 then _ else _) = _
        rw [if_pos z]
        rfl
      rw [← hnx] at e1 e2
      obtain ⟨y2, q2, mo2, fi2, qu2, g1, g2⟩ := ih f (i + 1) mo' fi' qu' (by omega) (by omega) e1
      refine ⟨y2, q2, mo2, fi2, qu2, g1, ?_⟩
      unfold lp_X2_spread_L37
      rw [if_neg (nI_ge (by omega) (by omega)), if_neg (show ¬ (720 : Int32) ≤ nI i from nI_ge (b := 720) (by omega) (by omega)), item_in (by omega) (by omega), bs, hR.2.2.2 i z]
      have hst : f_X2_step (if safe = true then 1 else 0) (nI (BEi n sg fl ht safe s i).2.2.2) (nI n) (nI sg) fk fh mo fc ff fi qu (nI ((BEi n sg fl ht safe s i).2.2.1 i)) = some (nI (BEi n sg fl ht safe s (i + 1)).2.2.2, mo', fi', qu') := by
        unfold f_X2_step
        rw [willing_x hT hn hu (fun a ha => ⟨hfh a ha, hht a ha⟩), bs, item_in (by omega) (by omega), bs, r1, nI_1]
        exact e2
      rw [hst, bs, nI_1]
      exact g2
    · refine ⟨nI i, nI (BEi n sg fl ht safe s i).2.2.2, mo, fi, qu, hend i mo fi qu z hR, ?_⟩
      unfold lp_X2_spread_L37
      rw [if_pos (nI_le z (by omega))]
theorem spread_x {n sg s : Nat} {fl ht : Nat → Nat} {safe : Bool} {fk fc ff fh mo fi qu : Nat → Int32} {q fr : Int32}
    (hT : Tab n fk fc) (hC : Told6 n sg fl ht) (hff : ∀ a, a < n → ff a = nI (fl a)) (hfh : ∀ a, a < n → fh a = nI (ht a)) (hs : s < fac n) (hfr : fr = nI s → Found n sg fl ht safe s mo fi) :
    ∃ q' mo' fi' qu', Found n sg fl ht safe s mo' fi' ∧ f_X2_spread (if safe = true then 1 else 0) q fr mo fi qu (nI n) (nI sg) fk fh fc ff (nI s) = some (q', nI s, mo', fi', qu') := by
  obtain ⟨hn, hsg, hfl, hht, hsym⟩ := id hC
  have h720 := fac_le n hn
  unfold f_X2_spread
  by_cases e : nI s = fr
  · rw [if_pos e]
    exact ⟨q, mo, fi, qu, hfr e.symm, by rw [e]⟩
  · rw [if_neg e]
    obtain ⟨mo1, a1, a2⟩ := fill7 (N := 720) (v := -9) (by omega) mo
    have hen : f_X2_enter 0 mo1 fi qu (nI s) 0 0 = some (1, upd mo1 s 0, upd fi s 0, upd qu 0 (nI s)) := by
      unfold f_X2_enter
      rw [put_in (by omega) (by omega), bs, put_in (by omega) (by omega), bs, show (0 : Int32) = nI 0 from rfl, put_in (by omega) (by omega), bs]
      rfl
    have h0 : RX (fac n) (sff n sg fl safe) (BEi n sg fl ht safe s 0) (upd mo1 s 0) (upd fi s 0) (upd qu 0 (nI s)) (nI (BEi n sg fl ht safe s 0).2.2.2) := by
      refine ⟨rfl, fun v d hv hd => ?_, fun v hv hd => ?_, fun j hj => ?_⟩
      · have hd : (if v = s then some 0 else none) = some d := hd
        by_cases c : v = s
        · subst c
          rw [if_pos rfl] at hd
          cases hd
          have hF : (BEi n sg fl ht safe v 0).2.1 v = 0 := by show upN (fun _ => 0) v 0 v = 0; unfold upN; rw [if_pos rfl]
          rw [pk_us, pk_us, hF]
          exact ⟨rfl, Nat.zero_le _, rfl, by omega⟩
        · rw [if_neg c] at hd; cases hd
      · have hd : (if v = s then some 0 else none) = none := hd
        by_cases c : v = s
        · rw [if_pos c] at hd; cases hd
        · rw [pk_un c, a1 v (by omega)]
          exact Or.inl rfl
      · have hj : j < 1 := hj
        have hQ : (BEi n sg fl ht safe s 0).2.2.1 j = s := by show upN (fun _ => 0) 0 s j = s; unfold upN; rw [if_pos (by omega)]
        rw [hQ, show j = 0 by omega, pk_us]
    obtain ⟨y, q', mo', fi', qu', g1, g2⟩ := spread_loop (k := fun _ y9 y10 y11 y12 => some (y9, nI s, y10, y11, y12)) (safe := safe) hT hC hff hfh hs 720 FU 0 _ _ _ (by omega) (by show _ < 4096; omega) h0
    refine ⟨q', mo', fi', qu', g1, ?_⟩
    rw [a2, bs, hen, bs]
    exact g2
