/-! ===== 61.token: the next TOKEN, for the class and for the reference ===== -/
def TXT (L : Nat) (t : Nat → Nat) (xb mb : Nat → Int32) : Prop := L ≤ 120 ∧ ∀ i, i < L → t i < 256 ∧ xb i = nI (t i) ∧ mb i = nI (t i)
def isL (c : Nat) : Bool := decide (97 ≤ c) && decide (c ≤ 122)
def isD (c : Nat) : Bool := decide (48 ≤ c) && decide (c ≤ 57)
theorem isL_x : ∀ c : Nat, c < 256 → f_X1_isLetter (nI c) = some (if isL c = true then 1 else 0) := by decide +kernel
theorem isL_m : ∀ c : Nat, c < 256 → f_X7_isLetter (nI c) = some (if isL c = true then 1 else 0) := by decide +kernel
theorem isD_x : ∀ c : Nat, c < 256 → f_X1_isDigit (nI c) = some (if isD c = true then 1 else 0) := by decide +kernel
theorem isD_m : ∀ c : Nat, c < 256 → f_X7_isFigure (nI c) = some (if isD c = true then 1 else 0) := by decide +kernel
theorem isL_e : f_X7_isLetter (-1) = some 0 := by decide
theorem isD_e : f_X7_isFigure (-1) = some 0 := by decide
theorem isD_L : ∀ c : Nat, c < 256 → isD c = true → isL c = false := by decide +kernel
theorem isD_at {c : Nat} (h : isD c = true) : 48 ≤ c ∧ c ≤ 57 := by
  unfold isD at h
  simp only [Bool.and_eq_true, decide_eq_true_eq] at h
  exact h
theorem isL_at {c : Nat} (h : isL c = true) : 97 ≤ c ∧ c ≤ 122 := by
  unfold isL at h
  simp only [Bool.and_eq_true, decide_eq_true_eq] at h
  exact h
theorem let_in {L p : Nat} {mb : Nat → Int32} (hp : p < L) (hL : L ≤ 120) : f_X7_letterAt (nI L) mb (nI p) = some (mb p) := by
  unfold f_X7_letterAt
  rw [if_neg (nI_ge (by omega) (by omega)), if_neg (nG (by omega) (by omega)), nC (by omega)]
theorem let_out {L : Nat} {mb : Nat → Int32} (hL : L ≤ 120) : f_X7_letterAt (nI L) mb (nI L) = some (-1) := by
  unfold f_X7_letterAt
  rw [if_pos (nI_le (by omega) (by omega))]
theorem item_any {N a : Nat} {f : Nat → Int32} (hN : N < 2 ^ 31) (ha : a < 2 ^ 31) : ∃ v, f_X6_item N f (nI a) = some v := by
  by_cases h : a < N
  · exact ⟨_, item_in h hN⟩
  · exact ⟨_, item_out (by omega) ha⟩
theorem nE {a b : Nat} (ha : a < 2 ^ 31) (hb : b < 2 ^ 31) (h : ¬ a = b) : ¬ nI a = nI b := fun q => h ((nI_eq ha hb).mp q)
-- blanks
def sk (t : Nat → Nat) : Nat → Nat → Nat
  | 0, p => p
  | d + 1, p => if t p = 32 then sk t d (p + 1) else p
theorem sk_le (t : Nat → Nat) : ∀ d p : Nat, p ≤ sk t d p ∧ sk t d p ≤ p + d
  | 0, p => ⟨Nat.le_refl _, Nat.le_refl _⟩
  | d + 1, p => by
    have e : sk t (d + 1) p = if t p = 32 then sk t d (p + 1) else p := rfl
    have ih := sk_le t d (p + 1)
    rw [e]
    split <;> omega
theorem nx8 {L : Nat} {t : Nat → Nat} {xb mb : Nat → Int32} {k : Int32 → Option (Int32 × Int32 × Int32 × Int32)} (hT : TXT L t xb mb) : ∀ d f p : Nat, L = p + d → d < f → lp_X1_next_L8 (nI L) xb k f (nI p) = k (nI (sk t d p)) := by
  obtain ⟨hL, hT⟩ := hT
  intro d
  induction d with
  | zero =>
    intro f p hp hf
    obtain ⟨f, rfl⟩ := pred1 hf
    unfold lp_X1_next_L8
    rw [if_pos (nI_le (by omega) (by omega))]
    rfl
  | succ d ih =>
    intro f p hp hf
    obtain ⟨f, rfl⟩ := pred1 (Nat.lt_of_le_of_lt (Nat.zero_le _) hf)
    unfold lp_X1_next_L8
    obtain ⟨h1, h2, h3⟩ := hT p (by omega)
    have e : sk t (d + 1) p = if t p = 32 then sk t d (p + 1) else p := rfl
    rw [if_neg (nI_ge (by omega) (by omega)), item_in (by omega) (by omega), bs, h2, nI_1, e]
    by_cases z : t p = 32
    · rw [if_pos z, if_pos (show nI (t p) = 32 from by rw [z]; rfl)]
      exact ih f (p + 1) (by omega) (by omega)
    · rw [if_neg z, if_neg (show ¬ nI (t p) = 32 from nE (b := 32) (by omega) (by omega) z)]
theorem nx0 {L : Nat} {t : Nat → Nat} {xb mb : Nat → Int32} {k : Int32 → Option (Int32 × Int32 × Int32 × Int32)} (hT : TXT L t xb mb) : ∀ d f p : Nat, L = p + d → d < f → lp_X7_next_L0 (nI L) mb k f (nI p) = k (nI (sk t d p)) := by
  obtain ⟨hL, hT⟩ := hT
  intro d
  induction d with
  | zero =>
    intro f p hp hf
    obtain ⟨f, rfl⟩ := pred1 hf
    unfold lp_X7_next_L0
    have e : p = L := by omega
    subst e
    rw [let_out (by omega), bs, if_neg (show ¬ (-1 : Int32) = 32 by decide)]
    rfl
  | succ d ih =>
    intro f p hp hf
    obtain ⟨f, rfl⟩ := pred1 (Nat.lt_of_le_of_lt (Nat.zero_le _) hf)
    unfold lp_X7_next_L0
    obtain ⟨h1, h2, h3⟩ := hT p (by omega)
    have e : sk t (d + 1) p = if t p = 32 then sk t d (p + 1) else p := rfl
    rw [let_in (by omega) (by omega), bs, h3, nI_1, e]
    by_cases z : t p = 32
    · rw [if_pos z, if_pos (show nI (t p) = 32 from by rw [z]; rfl)]
      exact ih f (p + 1) (by omega) (by omega)
    · rw [if_neg z, if_neg (show ¬ nI (t p) = 32 from nE (b := 32) (by omega) (by omega) z)]
-- letters
def ls (t : Nat → Nat) : Nat → Nat → Nat
  | 0, p => p
  | d + 1, p => if isL (t p) = true then ls t d (p + 1) else p
theorem ls_le (t : Nat → Nat) : ∀ d p : Nat, p ≤ ls t d p ∧ ls t d p ≤ p + d
  | 0, p => ⟨Nat.le_refl _, Nat.le_refl _⟩
  | d + 1, p => by
    have e : ls t (d + 1) p = if isL (t p) = true then ls t d (p + 1) else p := rfl
    have ih := ls_le t d (p + 1)
    rw [e]
    split <;> omega
theorem nl0 {L : Nat} {t : Nat → Nat} {xb mb : Nat → Int32} {k : Int32 → Option (Int32 × Int32 × Int32)} (hT : TXT L t xb mb) : ∀ d f p : Nat, L = p + d → d < f → lp_X1_nextLetters_L0 (nI L) xb k f (nI p) = k (nI (ls t d p)) := by
  obtain ⟨hL, hT⟩ := hT
  intro d
  induction d with
  | zero =>
    intro f p hp hf
    obtain ⟨f, rfl⟩ := pred1 hf
    unfold lp_X1_nextLetters_L0
    rw [if_pos (nI_le (by omega) (by omega))]
    rfl
  | succ d ih =>
    intro f p hp hf
    obtain ⟨f, rfl⟩ := pred1 (Nat.lt_of_le_of_lt (Nat.zero_le _) hf)
    unfold lp_X1_nextLetters_L0
    obtain ⟨h1, h2, h3⟩ := hT p (by omega)
    have e : ls t (d + 1) p = if isL (t p) = true then ls t d (p + 1) else p := rfl
    rw [if_neg (nI_ge (by omega) (by omega)), item_in (by omega) (by omega), bs, h2, isL_x _ h1, bs, nI_1, e]
    by_cases z : isL (t p) = true
    · rw [if_pos z, if_pos z, if_neg (show ¬ (1 : Int32) = 0 by decide)]
      exact ih f (p + 1) (by omega) (by omega)
    · rw [if_neg z, if_neg z, if_pos rfl]
theorem nl180 {L : Nat} {t : Nat → Nat} {xb mb : Nat → Int32} {k : Int32 → Option (Int32 × Int32 × Int32 × Int32)} (hT : TXT L t xb mb) : ∀ d f p : Nat, L = p + d → d < f → lp_X7_next_L180 (nI L) mb k f (nI p) = k (nI (ls t d p)) := by
  obtain ⟨hL, hT⟩ := hT
  intro d
  induction d with
  | zero =>
    intro f p hp hf
    obtain ⟨f, rfl⟩ := pred1 hf
    unfold lp_X7_next_L180
    have e : p = L := by omega
    subst e
    rw [let_out (by omega), bs, isL_e, bs, if_pos rfl]
    rfl
  | succ d ih =>
    intro f p hp hf
    obtain ⟨f, rfl⟩ := pred1 (Nat.lt_of_le_of_lt (Nat.zero_le _) hf)
    unfold lp_X7_next_L180
    obtain ⟨h1, h2, h3⟩ := hT p (by omega)
    have e : ls t (d + 1) p = if isL (t p) = true then ls t d (p + 1) else p := rfl
    rw [let_in (by omega) (by omega), bs, h3, isL_m _ h1, bs, nI_1, e]
    by_cases z : isL (t p) = true
    · rw [if_pos z, if_pos z, if_neg (show ¬ (1 : Int32) = 0 by decide)]
      exact ih f (p + 1) (by omega) (by omega)
    · rw [if_neg z, if_neg z, if_pos rfl]
-- numbers
def de (t : Nat → Nat) : Nat → Nat → Nat
  | 0, p => p
  | d + 1, p => if isD (t p) = true then de t d (p + 1) else p
theorem de_le (t : Nat → Nat) : ∀ d p : Nat, p ≤ de t d p ∧ de t d p ≤ p + d
  | 0, p => ⟨Nat.le_refl _, Nat.le_refl _⟩
  | d + 1, p => by
    have e : de t (d + 1) p = if isD (t p) = true then de t d (p + 1) else p := rfl
    have ih := de_le t d (p + 1)
    rw [e]
    split <;> omega
def dvx (t : Nat → Nat) : Nat → Nat → Nat → Nat
  | 0, _, v => v
  | d + 1, p, v => if isD (t p) = true then dvx t d (p + 1) (if v * 10 + t p - 48 < 100 then v * 10 + t p - 48 else 100) else v
def dvm (t : Nat → Nat) : Nat → Nat → Nat → Nat
  | 0, _, v => v
  | d + 1, p, v => if isD (t p) = true then dvm t d (p + 1) (if v ≤ 99 then 10 * v + t p - 48 else v) else v
def RV (x m : Nat) : Prop := (x = m ∧ m ≤ 99) ∨ (x = 100 ∧ 100 ≤ m ∧ m ≤ 999)
theorem rv_step (t : Nat → Nat) : ∀ (d p x m : Nat), RV x m → RV (dvx t d p x) (dvm t d p m)
  | 0, _, _, _, h => h
  | d + 1, p, x, m, h => by
    have e1 : dvx t (d + 1) p x = if isD (t p) = true then dvx t d (p + 1) (if x * 10 + t p - 48 < 100 then x * 10 + t p - 48 else 100) else x := rfl
    have e2 : dvm t (d + 1) p m = if isD (t p) = true then dvm t d (p + 1) (if m ≤ 99 then 10 * m + t p - 48 else m) else m := rfl
    rw [e1, e2]
    by_cases z : isD (t p) = true
    · rw [if_pos z, if_pos z]
      obtain ⟨z1, z2⟩ := isD_at z
      refine rv_step t d (p + 1) _ _ ?_
      unfold RV at h ⊢
      rcases h with ⟨h1, h2⟩ | ⟨h1, h2, h3⟩
      · subst h1
        rw [if_pos h2]
        by_cases q : x * 10 + t p - 48 < 100
        · rw [if_pos q]
          exact Or.inl ⟨by omega, by omega⟩
        · rw [if_neg q]
          exact Or.inr ⟨rfl, by omega, by omega⟩
      · subst h1
        rw [if_neg (show ¬ 100 * 10 + t p - 48 < 100 by omega), if_neg (show ¬ m ≤ 99 by omega)]
        exact Or.inr ⟨rfl, h2, h3⟩
    · rw [if_neg z, if_neg z]
      exact h
theorem nd8 {L : Nat} {t : Nat → Nat} {xb mb : Nat → Int32} {k : Int32 → Int32 → Option (Int32 × Int32 × Int32)} (hT : TXT L t xb mb) : ∀ d f p v : Nat, L = p + d → d < f → v ≤ 100 → lp_X1_nextDigits_L8 (nI L) xb k f (nI p) (nI v) = k (nI (de t d p)) (nI (dvx t d p v)) := by
  obtain ⟨hL, hT⟩ := hT
  intro d
  induction d with
  | zero =>
    intro f p v hp hf hv
    obtain ⟨f, rfl⟩ := pred1 hf
    unfold lp_X1_nextDigits_L8
    rw [if_pos (nI_le (by omega) (by omega))]
    rfl
  | succ d ih =>
    intro f p v hp hf hv
    obtain ⟨f, rfl⟩ := pred1 (Nat.lt_of_le_of_lt (Nat.zero_le _) hf)
    unfold lp_X1_nextDigits_L8
    obtain ⟨h1, h2, h3⟩ := hT p (by omega)
    have e1 : de t (d + 1) p = if isD (t p) = true then de t d (p + 1) else p := rfl
    have e2 : dvx t (d + 1) p v = if isD (t p) = true then dvx t d (p + 1) (if v * 10 + t p - 48 < 100 then v * 10 + t p - 48 else 100) else v := rfl
    rw [if_neg (nI_ge (by omega) (by omega)), item_in (by omega) (by omega), bs, h2, isD_x _ h1, bs, bs, nI_1, e1, e2]
    by_cases z : isD (t p) = true
    · obtain ⟨z1, z2⟩ := isD_at z
      have ev : (nI v * 10 + nI (t p)) - 48 = nI (v * 10 + t p - 48) := by
        rw [show (10 : Int32) = nI 10 from rfl, show (48 : Int32) = nI 48 from rfl, nM, nA, nS (by omega)]
      rw [if_pos z, if_pos z, if_pos z, if_neg (show ¬ (1 : Int32) = 0 by decide), ev]
      by_cases q : v * 10 + t p - 48 < 100
      · rw [if_pos q, if_pos (show nI (v * 10 + t p - 48) < 100 from nI_lt (b := 100) q (by omega))]
        exact ih f (p + 1) _ (by omega) (by omega) (by omega)
      · rw [if_neg q, if_neg (show ¬ nI (v * 10 + t p - 48) < 100 from fun y => by rw [show (100 : Int32) = nI 100 from rfl, nLt (by omega) (by omega)] at y; exact q y)]
        exact ih f (p + 1) 100 (by omega) (by omega) (by omega)
    · rw [if_neg z, if_neg z, if_neg z, if_pos rfl]
theorem nd67 {L : Nat} {t : Nat → Nat} {xb mb : Nat → Int32} {k : Int32 → Int32 → Option (Int32 × Int32 × Int32 × Int32)} (hT : TXT L t xb mb) : ∀ d f p v : Nat, L = p + d → d < f → v ≤ 999 → lp_X7_next_L67 (nI L) mb k f (nI p) (nI v) = k (nI (de t d p)) (nI (dvm t d p v)) := by
  obtain ⟨hL, hT⟩ := hT
  intro d
  induction d with
  | zero =>
    intro f p v hp hf hv
    obtain ⟨f, rfl⟩ := pred1 hf
    unfold lp_X7_next_L67
    have e : p = L := by omega
    subst e
    rw [let_out (by omega), bs, isD_e, bs, if_pos rfl]
    rfl
  | succ d ih =>
    intro f p v hp hf hv
    obtain ⟨f, rfl⟩ := pred1 (Nat.lt_of_le_of_lt (Nat.zero_le _) hf)
    unfold lp_X7_next_L67
    obtain ⟨h1, h2, h3⟩ := hT p (by omega)
    have e1 : de t (d + 1) p = if isD (t p) = true then de t d (p + 1) else p := rfl
    have e2 : dvm t (d + 1) p v = if isD (t p) = true then dvm t d (p + 1) (if v ≤ 99 then 10 * v + t p - 48 else v) else v := rfl
    rw [let_in (by omega) (by omega), bs, h3, isD_m _ h1, bs, bs, nI_1, e1, e2]
    by_cases z : isD (t p) = true
    · obtain ⟨z1, z2⟩ := isD_at z
      have ev : (10 * nI v + nI (t p)) - 48 = nI (10 * v + t p - 48) := by
        rw [show (10 : Int32) = nI 10 from rfl, show (48 : Int32) = nI 48 from rfl, nM, nA, nS (by omega)]
      rw [if_pos z, if_pos z, if_pos z, if_neg (show ¬ (1 : Int32) = 0 by decide), ev]
      by_cases q : v ≤ 99
      · rw [if_pos q, if_pos (show nI v ≤ 99 from nI_le (b := 99) q (by omega))]
        exact ih f (p + 1) _ (by omega) (by omega) (by omega)
      · rw [if_neg q, if_neg (show ¬ nI v ≤ 99 from fun y => by rw [show (99 : Int32) = nI 99 from rfl, nLe (by omega) (by omega)] at y; exact q y)]
        exact ih f (p + 1) v (by omega) (by omega) hv
    · rw [if_neg z, if_neg z, if_neg z, if_pos rfl]
-- the token
def TR (kx vx km vm : Int32) : Prop :=
  (kx = 0 ∧ km = 0) ∨ (kx = 3 ∧ km = 3) ∨ (kx = 2 ∧ km = 2 ∧ ∃ v : Nat, v ≤ 99 ∧ vx = nI v ∧ vm = nI v) ∨ (kx = 1 ∧ km = 1 ∧ ∃ c : Nat, 97 ≤ c ∧ c ≤ 122 ∧ vx = nI c ∧ vm = nI c) ∨ (kx = 4 ∧ (km = 4 ∨ (km = 1 ∧ vm = 0)))
theorem next_both {L pos : Nat} {t : Nat → Nat} {xb mb : Nat → Int32} (hT : TXT L t xb mb) (hp : pos ≤ L) (old : Int32) :
    ∃ p e : Nat, ∃ ex kx vx km vm : Int32, pos ≤ p ∧ p ≤ e ∧ e ≤ L ∧ ((p < e ∧ ex = nI e) ∨ kx = 0) ∧ f_X1_next (nI L) (nI pos) old xb = some (nI p, ex, kx, vx) ∧ f_X7_next (nI L) (nI pos) mb = some (nI e, nI p, km, vm) ∧ TR kx vx km vm := by
  obtain ⟨hL, hx⟩ := id hT
  obtain ⟨s1, s2⟩ := sk_le t (L - pos) pos
  have X : f_X1_next (nI L) (nI pos) old xb = _ := nx8 hT (L - pos) FU pos (by omega) (by show _ < 4096; omega)
  have M : f_X7_next (nI L) (nI pos) mb = _ := nx0 hT (L - pos) FU pos (by omega) (by show _ < 4096; omega)
  generalize sk t (L - pos) pos = p at s1 s2 X M
  by_cases z : p = L
  · subst z
    obtain ⟨v, hv⟩ := item_any (N := 120) (a := p) (f := xb) (by omega) (by omega)
    refine ⟨p, p, nI (p + 1), 0, old, 0, 0, s1, Nat.le_refl _, Nat.le_refl _, Or.inr rfl, ?_, ?_, Or.inl ⟨rfl, rfl⟩⟩
    · rw [X, hv, bs, if_neg (show ¬ nI p < nI p from fun q => by rw [nLt (by omega) (by omega)] at q; omega), nI_1]
    · rw [M, let_out (by omega), bs, if_neg (show ¬ (0 : Int32) ≤ -1 by decide)]
  · have hpl : p < L := by omega
    obtain ⟨h1, h2, h3⟩ := hx p hpl
    rw [item_in (by omega) (by omega), bs, h2, if_pos (nI_lt hpl (by omega)), isL_x _ h1, bs, isD_x _ h1, bs, nI_1] at X
    rw [let_in hpl hL, bs, h3, if_pos (show (0 : Int32) ≤ nI (t p) from nI_le (a := 0) (by omega) (by omega)), isD_m _ h1, bs, isL_m _ h1, bs, nI_1] at M
    cases hD : isD (t p) with
    | true =>
      obtain ⟨z1, z2⟩ := isD_at hD
      have hLf := isD_L _ h1 hD
      rw [hLf, hD, if_neg (show ¬ (false = true) by decide), if_pos rfl, if_pos rfl, if_neg (show ¬ (1 : Int32) = 0 by decide)] at X
      rw [hLf, hD, if_pos rfl, if_neg (show ¬ (1 : Int32) = 0 by decide)] at M
      obtain ⟨q1, q2⟩ := de_le t (L - (p + 1)) (p + 1)
      have hr := rv_step t (L - (p + 1)) (p + 1) (t p - 48) (t p - 48) (Or.inl ⟨rfl, by omega⟩)
      have em : de t (L - p) p = de t (L - (p + 1)) (p + 1) := by
        rw [show L - p = (L - (p + 1)) + 1 by omega]
        show (if isD (t p) = true then de t (L - (p + 1)) (p + 1) else p) = _
        rw [if_pos hD]
      have vm : dvm t (L - p) p 0 = dvm t (L - (p + 1)) (p + 1) (t p - 48) := by
        rw [show L - p = (L - (p + 1)) + 1 by omega]
        show (if isD (t p) = true then dvm t (L - (p + 1)) (p + 1) (if 0 ≤ 99 then 10 * 0 + t p - 48 else 0) else 0) = _
        rw [if_pos hD, if_pos (show 0 ≤ 99 by omega), Nat.mul_zero, Nat.zero_add]
      have M2 := nd67 (k := fun y21 y22 => if 99 < y22 then some (y21, nI p, 4, y22) else if nI (t p) = 48 then if (y21 - nI p) ≤ 1 then some (y21, nI p, 2, y22) else some (y21, nI p, 4, y22) else some (y21, nI p, 2, y22)) hT (L - p) FU p 0 (by omega) (by show _ < 4096; omega) (by omega)
      have M3 := M.trans M2
      rw [em, vm] at M3
      have X2 := nd8 (k := fun y6 y7 => if nI (t p) = 48 then if (y6 - nI p) ≤ 1 then if 99 < y7 then some (y6, 4, y7) else some (y6, 2, y7) else if 99 < y7 then some (y6, 4, y7) else some (y6, 4, y7) else if 99 < y7 then some (y6, 4, y7) else some (y6, 2, y7)) hT (L - (p + 1)) FU (p + 1) (t p - 48) (by omega) (by show _ < 4096; omega) (by omega)
      unfold f_X1_nextDigits at X
      rw [show nI (t p) - 48 = nI (t p - 48) from by rw [show (48 : Int32) = nI 48 from rfl, nS (by omega)], X2] at X
      generalize dvx t (L - (p + 1)) (p + 1) (t p - 48) = x at hr X
      generalize dvm t (L - (p + 1)) (p + 1) (t p - 48) = m at hr M3
      generalize de t (L - (p + 1)) (p + 1) = e at q1 q2 X M3
      have l1 : (nI e - nI p ≤ 1) = (e - p ≤ 1) := by rw [nS (by omega), show (1 : Int32) = nI 1 from rfl, nLe (by omega) (by omega)]
      have bad : f_X1_next (nI L) (nI pos) old xb = some (nI p, nI e, 4, nI x) → f_X7_next (nI L) (nI pos) mb = some (nI e, nI p, 4, nI m) → ∃ p e : Nat, ∃ ex kx vx km vm : Int32, pos ≤ p ∧ p ≤ e ∧ e ≤ L ∧ ((p < e ∧ ex = nI e) ∨ kx = 0) ∧ f_X1_next (nI L) (nI pos) old xb = some (nI p, ex, kx, vx) ∧ f_X7_next (nI L) (nI pos) mb = some (nI e, nI p, km, vm) ∧ TR kx vx km vm := fun a b => ⟨p, e, nI e, 4, nI x, 4, nI m, s1, by omega, by omega, Or.inl ⟨by omega, rfl⟩, a, b, Or.inr (Or.inr (Or.inr (Or.inr ⟨rfl, Or.inl rfl⟩)))⟩
      rcases hr with ⟨r1, r2⟩ | ⟨r1, r2, r3⟩
      · subst r1
        have good : f_X1_next (nI L) (nI pos) old xb = some (nI p, nI e, 2, nI x) → f_X7_next (nI L) (nI pos) mb = some (nI e, nI p, 2, nI x) → ∃ p e : Nat, ∃ ex kx vx km vm : Int32, pos ≤ p ∧ p ≤ e ∧ e ≤ L ∧ ((p < e ∧ ex = nI e) ∨ kx = 0) ∧ f_X1_next (nI L) (nI pos) old xb = some (nI p, ex, kx, vx) ∧ f_X7_next (nI L) (nI pos) mb = some (nI e, nI p, km, vm) ∧ TR kx vx km vm := fun a b => ⟨p, e, nI e, 2, nI x, 2, nI x, s1, by omega, by omega, Or.inl ⟨by omega, rfl⟩, a, b, Or.inr (Or.inr (Or.inl ⟨rfl, rfl, x, r2, rfl, rfl⟩))⟩
        have n99 : ¬ (99 : Int32) < nI x := fun y => by rw [show (99 : Int32) = nI 99 from rfl, nLt (by omega) (by omega)] at y; omega
        by_cases c : t p = 48
        · have c' : nI (t p) = 48 := by rw [c]; rfl
          by_cases w : e - p ≤ 1
          · refine good ?_ ?_
            · rw [X, if_pos c', if_pos (by rw [l1]; exact w), if_neg n99, bs]
            · rw [M3, if_neg n99, if_pos c', if_pos (by rw [l1]; exact w)]
          · refine bad ?_ ?_
            · rw [X, if_pos c', if_neg (by rw [l1]; exact w), if_neg n99, bs]
            · rw [M3, if_neg n99, if_pos c', if_neg (by rw [l1]; exact w)]
        · have c' : ¬ nI (t p) = 48 := nE (b := 48) (by omega) (by omega) c
          refine good ?_ ?_
          · rw [X, if_neg c', if_neg n99, bs]
          · rw [M3, if_neg n99, if_neg c']
      · have n99 : (99 : Int32) < nI x := by rw [r1]; decide
        have m99 : (99 : Int32) < nI m := nI_lt (a := 99) (by omega) (by omega)
        refine bad ?_ ?_
        · rw [X]
          by_cases c' : nI (t p) = 48
          · rw [if_pos c']
            by_cases w : nI e - nI p ≤ 1
            · rw [if_pos w, if_pos n99, bs]
            · rw [if_neg w, if_pos n99, bs]
          · rw [if_neg c', if_pos n99, bs]
        · rw [M3, if_pos m99]
    | false =>
      rw [hD, if_neg (show ¬ (false = true) by decide), if_pos rfl] at M
      rw [hD, if_neg (show ¬ (false = true) by decide)] at X
      cases hLt : isL (t p) with
      | true =>
        obtain ⟨z1, z2⟩ := isL_at hLt
        rw [hLt, if_pos rfl, if_neg (show ¬ (1 : Int32) = 0 by decide)] at X
        rw [hLt, if_pos rfl, if_neg (show ¬ (1 : Int32) = 0 by decide)] at M
        obtain ⟨q1, q2⟩ := ls_le t (L - (p + 1)) (p + 1)
        have em : ls t (L - p) p = ls t (L - (p + 1)) (p + 1) := by
          rw [show L - p = (L - (p + 1)) + 1 by omega]
          show (if isL (t p) = true then ls t (L - (p + 1)) (p + 1) else p) = _
          rw [if_pos hLt]
        have M2 := nl180 (k := fun y14 => if (y14 - nI p) = 1 then some (y14, nI p, 1, nI (t p)) else some (y14, nI p, 1, 0)) hT (L - p) FU p (by omega) (by show _ < 4096; omega)
        have M3 := M.trans M2
        rw [em] at M3
        have X2 := nl0 (k := fun y5 => if (y5 - nI p) = 1 then some (y5, 1, nI (t p)) else some (y5, 4, nI (t p))) hT (L - (p + 1)) FU (p + 1) (by omega) (by show _ < 4096; omega)
        unfold f_X1_nextLetters at X
        rw [X2] at X
        generalize ls t (L - (p + 1)) (p + 1) = e at q1 q2 X M3
        by_cases w : e - p = 1
        · have w' : nI e - nI p = 1 := by rw [nS (by omega), w]; rfl
          refine ⟨p, e, nI e, 1, nI (t p), 1, nI (t p), s1, by omega, by omega, Or.inl ⟨by omega, rfl⟩, ?_, ?_, Or.inr (Or.inr (Or.inr (Or.inl ⟨rfl, rfl, t p, z1, z2, rfl, rfl⟩)))⟩
          · rw [X, if_pos w', bs]
          · rw [M3, if_pos w']
        · have w' : ¬ nI e - nI p = 1 := by rw [nS (by omega)]; exact nE (b := 1) (by omega) (by omega) w
          refine ⟨p, e, nI e, 4, nI (t p), 1, 0, s1, by omega, by omega, Or.inl ⟨by omega, rfl⟩, ?_, ?_, Or.inr (Or.inr (Or.inr (Or.inr ⟨rfl, Or.inr ⟨rfl, rfl⟩⟩)))⟩
          · rw [X, if_neg w', bs]
          · rw [M3, if_neg w']
      | false =>
        rw [hLt, if_neg (show ¬ (false = true) by decide), if_pos rfl, if_pos rfl] at X
        rw [hLt, if_neg (show ¬ (false = true) by decide), if_pos rfl] at M
        by_cases c' : nI (t p) = 59
        · exact ⟨p, p + 1, nI (p + 1), 3, old, 3, 0, s1, by omega, by omega, Or.inl ⟨by omega, rfl⟩, by rw [X, if_pos c'], by rw [M, if_pos c'], Or.inr (Or.inl ⟨rfl, rfl⟩)⟩
        · exact ⟨p, p + 1, nI (p + 1), 4, old, 4, 0, s1, by omega, by omega, Or.inl ⟨by omega, rfl⟩, by rw [X, if_neg c'], by rw [M, if_neg c'], Or.inr (Or.inr (Or.inr (Or.inr ⟨rfl, Or.inl rfl⟩)))⟩
