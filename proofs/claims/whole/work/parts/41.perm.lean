/-! ===== 41.perm: the ways in which keepers can be at rocks, counted ===== -/
def fac : Nat → Nat
  | 0 => 1
  | n + 1 => (n + 1) * fac n
def pickE : List Nat → Nat → Nat
  | [], _ => 0
  | a :: _, 0 => a
  | _ :: l, d + 1 => pickE l d
def pickR : List Nat → Nat → List Nat
  | [], _ => []
  | _ :: l, 0 => l
  | a :: l, d + 1 => a :: pickR l d
def unr : Nat → List Nat → Nat → List Nat
  | 0, _, _ => []
  | m + 1, av, w => pickE av (w / fac m) :: unr m (pickR av (w / fac m)) (w % fac m)
/-- who is at the rocks, one behind another, in the w-th way -/
def PL (n w : Nat) : List Nat := unr n (List.range n) w
def P (n w r : Nat) : Nat := (PL n w).getD r 0
def cntL (a : Nat) : List Nat → Nat
  | [] => 0
  | b :: l => (if b < a then 1 else 0) + cntL a l
def rkL : List Nat → Nat
  | [] => 0
  | a :: l => cntL a l * fac l.length + rkL l
def swapL : Nat → List Nat → List Nat
  | _, [] => []
  | _, [a] => [a]
  | 0, a :: b :: l => b :: a :: l
  | r + 1, a :: b :: l => a :: swapL r (b :: l)
/-- the way that the w-th becomes, if who is at rock r and who is at the next one change -/
def X (n w r : Nat) : Nat := rkL (swapL r (PL n w))
def swp (r : Nat) (p : Nat → Nat) (q : Nat) : Nat := if q = r then p (r + 1) else if q = r + 1 then p r else p q
def okB (n w : Nat) : Bool := (PL n w).length == n && (PL n w).all (fun a => decide (a < n)) && rkL (PL n w) == w && (List.range n).all (fun k => (PL n w).contains k)
theorem okB_all : ∀ n : Nat, n < 7 → ∀ w : Nat, w < fac n → okB n w = true := by decide +kernel
def okX (n w r : Nat) : Bool := decide (X n w r < fac n) && PL n (X n w r) == swapL r (PL n w) && X n (X n w r) r == w
theorem okX_all : ∀ n : Nat, n < 7 → ∀ w : Nat, w < fac n → ∀ r : Nat, r < n - 1 → okX n w r = true := by decide +kernel
theorem fac_le : ∀ n : Nat, n < 7 → fac n ≤ 720 := by decide
theorem fac_pos : ∀ n : Nat, n < 7 → 0 < fac n := by decide
theorem PL_len {n w : Nat} (hn : n < 7) (hw : w < fac n) : (PL n w).length = n := by
  have h := okB_all n hn w hw
  simp only [okB, Bool.and_eq_true, beq_iff_eq] at h
  exact h.1.1.1
theorem P_lt {n w r : Nat} (hn : n < 7) (hw : w < fac n) (hr : r < n) : P n w r < n := by
  have h := okB_all n hn w hw
  simp only [okB, Bool.and_eq_true, beq_iff_eq, List.all_eq_true, decide_eq_true_eq] at h
  unfold P
  have hl := h.1.1.1
  rw [List.getD_eq_getElem?_getD, List.getElem?_eq_getElem (by omega)]
  exact h.1.1.2 _ (List.getElem_mem _)
theorem rk_PL {n w : Nat} (hn : n < 7) (hw : w < fac n) : rkL (PL n w) = w := by
  have h := okB_all n hn w hw
  simp only [okB, Bool.and_eq_true, beq_iff_eq] at h
  exact h.1.2
theorem P_onto {n w k : Nat} (hn : n < 7) (hw : w < fac n) (hk : k < n) : ∃ r, r < n ∧ P n w r = k := by
  have h := okB_all n hn w hw
  simp only [okB, Bool.and_eq_true, beq_iff_eq, List.all_eq_true, List.mem_range] at h
  have hm : k ∈ PL n w := by
    have := h.2 k hk
    exact List.contains_iff_mem.mp this
  obtain ⟨r, hr, e⟩ := List.getElem_of_mem hm
  refine ⟨r, by rw [h.1.1.1] at hr; exact hr, ?_⟩
  unfold P
  rw [List.getD_eq_getElem?_getD, List.getElem?_eq_getElem hr]
  exact e
def injB (n w : Nat) : Bool := (List.range n).all (fun i => (List.range n).all (fun j => P n w i != P n w j || i == j))
theorem injB_all : ∀ n : Nat, n < 7 → ∀ w : Nat, w < fac n → injB n w = true := by decide +kernel
theorem P_inj {n w i j : Nat} (hn : n < 7) (hw : w < fac n) (hi : i < n) (hj : j < n) (e : P n w i = P n w j) : i = j := by
  have h := injB_all n hn w hw
  simp only [injB, List.all_eq_true, List.mem_range, Bool.or_eq_true, bne_iff_ne, beq_iff_eq] at h
  rcases h i hi j hj with q | q
  · exact absurd e q
  · exact q
theorem P_home : ∀ n : Nat, n < 7 → ∀ r : Nat, r < n → P n 0 r = r := by decide +kernel
theorem X_lt {n w r : Nat} (hn : n < 7) (hw : w < fac n) (hr : r + 1 < n) : X n w r < fac n := by
  have h := okX_all n hn w hw r (by omega)
  simp only [okX, Bool.and_eq_true, decide_eq_true_eq] at h
  exact h.1.1
theorem X_X {n w r : Nat} (hn : n < 7) (hw : w < fac n) (hr : r + 1 < n) : X n (X n w r) r = w := by
  have h := okX_all n hn w hw r (by omega)
  simp only [okX, Bool.and_eq_true, decide_eq_true_eq, beq_iff_eq] at h
  exact h.2
theorem swapL_getD : ∀ (r : Nat) (l : List Nat) (q : Nat), r + 1 < l.length → (swapL r l).getD q 0 = swp r (fun i => l.getD i 0) q
  | _, [], _, h => by simp at h
  | _, [a], _, h => by simp at h
  | 0, a :: b :: l, q, _ => by
    match q with
    | 0 => simp [swapL, swp]
    | 1 => simp [swapL, swp]
    | q + 2 => simp [swapL, swp]
  | r + 1, a :: b :: l, q, h => by
    match q with
    | 0 => simp [swapL, swp]
    | q + 1 =>
      have ih := swapL_getD r (b :: l) q (by simp at h ⊢; omega)
      show (swapL r (b :: l)).getD q 0 = _
      rw [ih]
      simp [swp]
theorem P_X {n w r q : Nat} (hn : n < 7) (hw : w < fac n) (hr : r + 1 < n) : P n (X n w r) q = swp r (P n w) q := by
  have h := okX_all n hn w hw r (by omega)
  simp only [okX, Bool.and_eq_true, decide_eq_true_eq, beq_iff_eq] at h
  show (PL n (X n w r)).getD q 0 = _
  rw [h.1.2]
  exact swapL_getD r (PL n w) q (by rw [PL_len hn hw]; exact hr)
/-- a way is known by who is where -/
theorem P_ext {n v w : Nat} (hn : n < 7) (hv : v < fac n) (hw : w < fac n) (h : ∀ r, r < n → P n v r = P n w r) : v = w := by
  have e : PL n v = PL n w := by
    apply List.ext_getElem (by rw [PL_len hn hv, PL_len hn hw])
    intro i h1 h2
    have := h i (by rw [PL_len hn hv] at h1; exact h1)
    unfold P at this
    rw [List.getD_eq_getElem?_getD, List.getElem?_eq_getElem h1, List.getD_eq_getElem?_getD, List.getElem?_eq_getElem h2] at this
    exact this
  rw [← rk_PL hn hv, ← rk_PL hn hw, e]
/-- where a keeper is -/
def rockAt (n w k : Nat) : Nat → Nat
  | 0 => 0
  | m + 1 => if P n w (n - (m + 1)) = k then n - (m + 1) else rockAt n w k m
def R (n w k : Nat) : Nat := rockAt n w k n
theorem R_ok : ∀ n : Nat, n < 7 → ∀ w : Nat, w < fac n → ∀ k : Nat, k < n → R n w k < n ∧ P n w (R n w k) = k := by decide +kernel
theorem R_lt {n w k : Nat} (hn : n < 7) (hw : w < fac n) (hk : k < n) : R n w k < n := (R_ok n hn w hw k hk).1
theorem P_R {n w k : Nat} (hn : n < 7) (hw : w < fac n) (hk : k < n) : P n w (R n w k) = k := (R_ok n hn w hw k hk).2
theorem R_first {n w k r : Nat} (hn : n < 7) (hw : w < fac n) (hr : r < n) (hk : k < n) (h : r < R n w k) : P n w r ≠ k := fun e => by
  have := P_inj hn hw hr (R_lt hn hw hk) (e.trans (P_R hn hw hk).symm)
  omega
theorem home_w {n w : Nat} (hn : n < 7) (hw : w < fac n) (h : ∀ r, r < n → P n w r = r) : w = 0 := P_ext hn hw (fac_pos n hn) (fun r hr => by rw [h r hr, P_home n hn r hr])
