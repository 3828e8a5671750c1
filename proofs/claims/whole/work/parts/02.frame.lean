/-! ===== 03.frame: one shape of contract for every method, and the rows that go with it ===== -/
abbrev gG : Type := va_G × ClassId × ClassId
abbrev gty (g : gG) : List (ClassId × FieldType) := [(g.2.1, .int), (g.2.2, .boolean)]
/-- what the static row of factorials holds -/
def facI : Nat → Int32 := fun j => match j with
  | 0 => 1
  | 1 => 1
  | 2 => 2
  | 3 => 6
  | 4 => 24
  | 5 => 120
  | _ => 720
def gF (A : Nat → Prop) (U : State) (H : Heap) : Prop := ∃ t : Nat, va_Z "LightKeepers$Ways" "FACTORIALS" "[I" (.ref t) A U H ∧ va_T .int t 7 (fun j => .int (facI j)) A U H
theorem gF.moved {A : Nat → Prop} {u U : State} {H : Heap} (hvm : u.vm.Alike U.vm) (h : gF A u H) : gF A U H := by
  obtain ⟨t, h1, h2⟩ := h
  exact ⟨t, h1.moved hvm, h2.moved hvm⟩
theorem gF.kept {A B : Nat → Prop} {U : State} {H H1 : Heap} (h : gF A U H) (hq : ∀ q : Nat, q < H.size → ¬ A q → H1[q]? = H[q]?) (hAB : ∀ q, B q → A q) : gF B U H1 := by
  obtain ⟨t, h1, h2⟩ := h
  exact ⟨t, (h1.kept hq).narrow hAB, (h2.kept hq).narrow hAB⟩
/-- the links to private members of nest mates -/
def gNl : List (String × Nat × MethodName) := [(RX6, 9, yX1_init), (RX6, 18, yX4_init), (RX6, 25, yX3_init), (RX6, 44, yX0_init), (RX0, 41, yX6_put), (RX0, 45, yX6_item), (RX1, 19, yX6_put), (RX1, 82, yX6_item), (RX2, 46, yX6_item), (RX2, 78, yX6_put), (RX3, 11, yX4_init), (RX3, 20, yX5_init), (RX4, 44, yX6_put), (RX5, 49, yX6_put), (RX5, 60, yX6_item)]
def gN (U : State) : Prop := ∀ q ∈ gNl, va_Nw (.methodLinkNest q.1 q.2.1 q.2.2 "LightKeepers") U
theorem gN.warm {s U : State} (hW : s.WarmedH U.vm) (h : gN s) : gN U := fun q hq => va_Nw.warmM hW (h q hq)
theorem gN.same {u U : State} (hvm : u.vm = U.vm) (h : gN u) : gN U := fun q hq => va_Nw.same rfl hvm (h q hq)
/-- a method's start: its cells, apart, and what stands around them -/
def gPre (g : gG) (as : List Value) (w : va_W) (sz : Nat) : Array Value → State → Prop :=
  va_Pc as (fun U => U.heap.size = sz ∧ va_P g.1 vwCl w U.heap ∧ va_K g.1 vwCl (gty g) U ∧ va_D (fun _ => True) w ∧ gN U ∧ gF (va_A w sz) U U.heap)
theorem gPre.blind {g : gG} {as : List Value} {w : va_W} {sz : Nat} : FrameBlind (gPre g as w sz) := fun a U fr mk q => by
  obtain ⟨q0, q1, qP, qK, qD, qN, qF⟩ := q
  exact ⟨q0, q1, qP, va_K.moved (u := U) (U := U.calling fr mk a) (Vm.Alike.refl U.vm) qK, qD, gN.same (u := U) (U := U.calling fr mk a) rfl qN, gF.moved (u := U) (U := U.calling fr mk a) (Vm.Alike.refl U.vm) qF⟩
/-- a method's end: its cells as they are then -/
def gB (g : gG) (w : va_W) (A : Nat → Prop) : Unit → State → Prop := fun _ t => va_P g.1 vwCl w t.heap ∧ va_K g.1 vwCl (gty g) t ∧ va_D A w
abbrev gQi (g : gG) (w : va_W) (r : Int32) (A : Nat → Prop) : Array Value → State → Outcome → State → Prop := va_Qi (fun (r' : Int32) (_ : Unit) => r' = r) (gB g w A) A
abbrev gQl (g : gG) (w : va_W) (r : Int64) (A : Nat → Prop) : Array Value → State → Outcome → State → Prop := va_Ql (fun (r' : Int64) (_ : Unit) => r' = r) (gB g w A) A
abbrev gQv (g : gG) (w : va_W) (A : Nat → Prop) : Array Value → State → Outcome → State → Prop := va_Qv (fun (_ : Unit) => True) (gB g w A) A
abbrev gQq (g : gG) (w : va_W) (r : Option Nat) (A : Nat → Prop) : Array Value → State → Outcome → State → Prop := va_Qq (fun (r' : Option Nat) (_ : Unit) => r' = r) (gB g w A) A
def Ci (l : Launch) (g : gG) (y : MethodName) (ws : List Cond) (rm : Room) (as : List Value) (w1 w2 : va_W) (r : Int32) : Prop := ∀ sz : Nat, Met l y ws rm (gPre g as w1 sz) (gQi g w2 r (va_A w1 sz)) 0 0 (va_A w1 sz)
def Cl (l : Launch) (g : gG) (y : MethodName) (ws : List Cond) (rm : Room) (as : List Value) (w1 w2 : va_W) (r : Int64) : Prop := ∀ sz : Nat, Met l y ws rm (gPre g as w1 sz) (gQl g w2 r (va_A w1 sz)) 0 0 (va_A w1 sz)
def Cv (l : Launch) (g : gG) (y : MethodName) (ws : List Cond) (rm : Room) (as : List Value) (w1 w2 : va_W) : Prop := ∀ sz : Nat, Met l y ws rm (gPre g as w1 sz) (gQv g w2 (va_A w1 sz)) 0 0 (va_A w1 sz)
def Cq (l : Launch) (g : gG) (y : MethodName) (ws : List Cond) (rm : Room) (as : List Value) (w1 w2 : va_W) (r : Option Nat) : Prop := ∀ sz : Nat, Met l y ws rm (gPre g as w1 sz) (gQq g w2 r (va_A w1 sz)) 0 0 (va_A w1 sz)
/-- what holds all along a method's body -/
def Cx (p : Program) (s : State) (m : MethodId) (args : Array Value) (meth : Method) (c : Code) (own : String) (cc : ByteArray) (nL : Nat) (Ts : List Cond) (ret : Option FieldType) (g : gG) (A : Nat → Prop) : Prop :=
  p.tables.exec = Jvm.exec ∧ c.code = cc ∧ c.maxLocals = nL ∧ s.vm.findClass own = some m.cls ∧ (∀ w ∈ Ts, w.before args s = true) ∧ meth.sig.returnType = ret ∧ meth.locks = false ∧ gN s ∧ va_K g.1 vwCl (gty g) s ∧ gF A s s.heap ∧ (∀ q, s.heap.size ≤ q → A q)
theorem gBody {l : Launch} {g : gG} {y : MethodName} {ws ws' : List Cond} {rm : Room} {as : List Value} {w1 : va_W} {cc : ByteArray} {maxL : Nat} {ret : Option FieldType} {own : String} {mc ms sz : Nat} {Qf : (Nat → Prop) → Array Value → State → Outcome → State → Prop}
    (hy : plainName y.cls = true) (hw : ws = Cond.code y cc maxL ret :: ws') (ho : y.cls = own) (hn : (lg_sl as).length ≤ maxL)
    (body : ∀ (p : Program) (e : Env) (s : State) (m : MethodId) (args : Array Value) (below : List Frame) (meth : Method) (c : Code) (A : Nat → Prop), Cx p s m args meth c own cc maxL ws ret g A → ∀ H : Heap, va_S A s.heap H [] → va_D A w1 → va_P g.1 vwCl w1 H → ∀ ls : Array Slot, lv_has ls maxL (lv_args 0 as) →
      W p l e rm s m args below meth c H [] 0 0 (MQ below (Qf A) args s mc ms A) (F0 m 0 ls [])) : Met l y ws rm (gPre g as w1 sz) (Qf (va_A w1 sz)) mc ms (va_A w1 sz) := by
  refine Met.ofW (cc := cc) (maxL := maxL) (ret := ret) hy hw ?_
  intro p e s m args below meth c s₁ B hml hv
  obtain ⟨rfl, hsz, hP, hK, hD0, hN, hF⟩ := hv
  subst hsz
  have hl := lv_entry as (n := maxL) hn
  rw [lg_entry_eq]
  refine body p e s m _ below meth c (va_A w1 s.heap.size) ⟨B.exec, B.bytes, hml, ?_, atoms_spec (ws := ws) B.pre, B.returns, B.notSynchronized, hN, hK, hF, fun q h => Or.inr h⟩ s.heap va_S.rf (hD0.self (sz := s.heap.size)) hP _ hl
  rw [← ho]
  exact findClass_of_methodNamed B.named
section GR
variable {p : Program} {l : Launch} {e : Env} {R : Room} {s : State} {m : MethodId} {args : Array Value} {below : List Frame} {meth : Method} {c : Code} {H : Heap} {locs : List Loc} {cells slots : Nat} {Q : State → Prop}
variable {own : String} {cc : ByteArray} {nL : Nat} {Ts : List Cond} {ret : Option FieldType} {g : gG} {A : Nat → Prop} {pc : Nat} {ls : Array Slot} {ws w2 : va_W}
theorem ret_i (C : Cx p s m args meth c own cc nL Ts (some .int) g A) {v : Int32} (hP : va_P g.1 vwCl w2 H) (hD : va_D A w2) (hS : va_S A s.heap H locs) (hdg : decode cc pc = .ok (.ireturn, 1)) : W p l e R s m args below meth c H locs cells slots (MQ below (gQi g w2 v A) args s cells slots A) (F0 m pc ls [.int v]) := by
  obtain ⟨hx, hb, hml, hown, hts, hr, hlk, hN, hK, hF, hA⟩ := C
  exact W.iret hx hb hr (fun t ht hW => ⟨⟨v, (), rfl, rfl, by rw [ht]; exact hP, va_K.moved hW.alike hK, hD⟩, hS.F ht⟩) hS.2.2 hdg
theorem ret_z (C : Cx p s m args meth c own cc nL Ts (some .boolean) g A) {v : Int32} (hn : narrow .boolean (.int v) = .int v) (hP : va_P g.1 vwCl w2 H) (hD : va_D A w2) (hS : va_S A s.heap H locs) (hdg : decode cc pc = .ok (.ireturn, 1)) : W p l e R s m args below meth c H locs cells slots (MQ below (gQi g w2 v A) args s cells slots A) (F0 m pc ls [.int v]) := by
  obtain ⟨hx, hb, hml, hown, hts, hr, hlk, hN, hK, hF, hA⟩ := C
  exact W.zret hx hb hr hn (fun t ht hW => ⟨⟨v, (), rfl, rfl, by rw [ht]; exact hP, va_K.moved hW.alike hK, hD⟩, hS.F ht⟩) hS.2.2 hdg
theorem ret_l (C : Cx p s m args meth c own cc nL Ts (some .long) g A) {v : Int64} (hP : va_P g.1 vwCl w2 H) (hD : va_D A w2) (hS : va_S A s.heap H locs) (hdg : decode cc pc = .ok (.lreturn, 1)) : W p l e R s m args below meth c H locs cells slots (MQ below (gQl g w2 v A) args s cells slots A) (F0 m pc ls [.long v]) := by
  obtain ⟨hx, hb, hml, hown, hts, hr, hlk, hN, hK, hF, hA⟩ := C
  exact W.lret hx hb hr (fun t ht hW => ⟨⟨v, (), rfl, rfl, by rw [ht]; exact hP, va_K.moved hW.alike hK, hD⟩, hS.F ht⟩) hS.2.2 hdg
theorem ret_v (C : Cx p s m args meth c own cc nL Ts none g A) (hP : va_P g.1 vwCl w2 H) (hD : va_D A w2) (hS : va_S A s.heap H locs) (hdg : decode cc pc = .ok (.return_, 1)) : W p l e R s m args below meth c H locs cells slots (MQ below (gQv g w2 A) args s cells slots A) (F0 m pc ls []) := by
  obtain ⟨hx, hb, hml, hown, hts, hr, hlk, hN, hK, hF, hA⟩ := C
  exact W.vret hx hb hr (fun t ht hW => ⟨⟨(), rfl, trivial, by rw [ht]; exact hP, va_K.moved hW.alike hK, hD⟩, hS.F ht⟩) hS.2.2 hdg
theorem ret_q {rt : FieldType} (C : Cx p s m args meth c own cc nL Ts (some rt) g A) (hrt : (∃ n, rt = .object n) ∨ ∃ t, rt = .array t) {v : Option Nat} {x : Value} (hx : x = va_rf v) (hP : va_P g.1 vwCl w2 H) (hD : va_D A w2) (hS : va_S A s.heap H locs) (hdg : decode cc pc = .ok (.areturn, 1)) : W p l e R s m args below meth c H locs cells slots (MQ below (gQq g w2 v A) args s cells slots A) (F0 m pc ls [x]) := by
  obtain ⟨hx1, hb, hml, hown, hts, hr, hlk, hN, hK, hF, hA⟩ := C
  refine W.aret hx1 hb hr hrt (by subst hx; cases v; exact Or.inl rfl; exact Or.inr ⟨_, rfl⟩) (fun t ht hW => ⟨⟨v, (), by rw [hx], rfl, by rw [ht]; exact hP, va_K.moved hW.alike hK, hD⟩, hS.F ht⟩) hS.2.2 hdg
theorem pre_of (C : Cx p s m args meth c own cc nL Ts ret g A) (hP : va_P g.1 vwCl ws H) (hD : va_D A ws) (hS : va_S A s.heap H locs) (isC : List Nat) {wc : va_W} (hC : isC.map (fun i => ws[i]?) = wc.map some) (hn : va_nd isC = true) (As : List Value) : PreS s H (gPre g As wc H.size) As := by
  obtain ⟨hx, hb, hml, hown, hts, hr, hlk, hN, hK, hF, hA⟩ := C
  refine ⟨gPre.blind, fun U hU hW => ⟨rfl, by rw [hU], ?_, va_K.moved hW.alike hK, (hD.sub isC hn hC).weaken (fun _ _ _ _ => trivial), gN.warm hW hN, ?_⟩⟩
  · rw [hU]
    intro k q hk
    have h1 : (isC.map (fun i => ws[i]?))[k]? = some (some q) := by rw [hC, List.getElem?_map, hk]; rfl
    rw [List.getElem?_map] at h1
    cases hi : isC[k]? with
    | none => rw [hi] at h1; cases h1
    | some i => rw [hi] at h1; exact hP i q (Option.some.inj h1)
  · rw [hU]
    exact gF.moved hW.alike (hF.kept hS.2.1 (va_free hD hS hA isC hC))
variable {pcT : Nat} {y : MethodName} {bytes : ByteArray} {maxL index n : Nat} {retc : Option FieldType} {wsc ws' : List Cond} {rm : Room} {Qc : Array Value → State → Outcome → State → Prop} {b : Addr} {As rest st0 : List Value} {wc : va_W}
theorem run_V (C : Cx p s m args meth c own cc nL Ts ret g A) (hM : Met l y wsc rm (gPre g (.ref b :: As) wc H.size) Qc 0 0 (va_A wc H.size)) (n : Nat) (hG : GoodIn Ts (wsV own index y.cls y wsc)) (hw : wsc = Cond.code y bytes maxL retc :: ws') (hrc : rm.cells = 0) (hrs : rm.slots = 0)
    (hd : y.cls ≠ "java/lang/invoke/MethodHandle" ∧ y.cls ≠ "java/lang/invoke/VarHandle" ∧ (parseMethodDescriptor y.desc).map (fun d => d.parameters.length) = some n) (hR : rm.frames + 1 ≤ R.frames ∧ 8 + (maxL + 11) + rm.locals ≤ R.locals)
    (hP : va_P g.1 vwCl ws H) (hD : va_D A ws) (hS : va_S A s.heap H locs) (isC : List Nat) (hC : isC.map (fun i => ws[i]?) = wc.map some) (hnC : va_nd isC = true)
    (q0 ci : Nat) {T : u_T} {N : Nat} {fs : List Value} (he : ws[q0]? = some (b, .inr (ci, fs))) (hc : vwCl[ci]? = some (y.cls, T, N))
    (hn : As.length = n) (hl : ls.size = nL) (hst : st0 = As.reverse ++ .ref b :: rest) (hW : (rest.map fun v => v.category).sum ≤ 8) (hf : cells ≤ R.cells ∧ slots ≤ R.slots) (hdg : decode cc pc = .ok (.invokevirtual index, 3)) :
    va_Run p l e R s m args below meth c H locs cells slots 0 0 (F0 m pc ls st0) rest (Qc (Value.ref b :: As).toArray) (va_A wc H.size) := by
  obtain ⟨hx, hb, hml, hown, hts, hr, hlk, hN, hK, hF, hA⟩ := id C
  have pr := pre_of C hP hD hS isC hC hnC (.ref b :: As)
  exact va_runV ⟨hx, hb, hml, hown, hts⟩ hM (cwV n hts hG hw hrc hrs ⟨rfl, hd⟩ hR) ⟨pr.1, va_recv hK hP hc he, pr.2⟩ rfl hn hl hst (lv_room hW) hdg ⟨hf.1, hf.2⟩
theorem run_S (C : Cx p s m args meth c own cc nL Ts ret g A) (hM : Met l y wsc rm (gPre g As wc H.size) Qc 0 0 (va_A wc H.size)) (n : Nat) (hG : GoodIn Ts (va_wsS own index y wsc)) (hw : wsc = Cond.code y bytes maxL retc :: ws') (hrc : rm.cells = 0) (hrs : rm.slots = 0)
    (hd : y.cls ≠ "java/lang/invoke/MethodHandle" ∧ y.cls ≠ "java/lang/invoke/VarHandle" ∧ (parseMethodDescriptor y.desc).map (fun d => d.parameters.length) = some n) (hR : rm.frames + 1 ≤ R.frames ∧ 8 + (maxL + 11) + rm.locals ≤ R.locals)
    (hP : va_P g.1 vwCl ws H) (hD : va_D A ws) (hS : va_S A s.heap H locs) (isC : List Nat) (hC : isC.map (fun i => ws[i]?) = wc.map some) (hnC : va_nd isC = true)
    (hn : As.length = n) (hl : ls.size = nL) (hst : st0 = As.reverse ++ rest) (hW : (rest.map fun v => v.category).sum ≤ 8) (hf : cells ≤ R.cells ∧ slots ≤ R.slots) (hdg : decode cc pc = .ok (.invokestatic index, 3)) :
    va_Run p l e R s m args below meth c H locs cells slots 0 0 (F0 m pc ls st0) rest (Qc As.toArray) (va_A wc H.size) := by
  obtain ⟨hx, hb, hml, hown, hts, hr, hlk, hN, hK, hF, hA⟩ := id C
  exact va_runS ⟨hx, hb, hml, hown, hts⟩ hM (va_cwS n hts hG hw hrc hrs hd hR) (pre_of C hP hD hS isC hC hnC As) rfl hn hl hst (lv_room hW) hdg ⟨hf.1, hf.2⟩
theorem run_SN (C : Cx p s m args meth c own cc nL Ts ret g A) (hM : Met l y wsc rm (gPre g As wc H.size) Qc 0 0 (va_A wc H.size)) (n : Nat) (hG : GoodIn Ts wsc) (hw : wsc = Cond.code y bytes maxL retc :: ws') (hrc : rm.cells = 0) (hrs : rm.slots = 0) (hnest : (own, index, y) ∈ gNl) (hst1 : (Cond.static y) ∈ Ts) (hini : (Cond.initialized y.cls) ∈ Ts)
    (hd : y.cls ≠ "java/lang/invoke/MethodHandle" ∧ y.cls ≠ "java/lang/invoke/VarHandle" ∧ (parseMethodDescriptor y.desc).map (fun d => d.parameters.length) = some n) (hR : rm.frames + 1 ≤ R.frames ∧ 8 + (maxL + 11) + rm.locals ≤ R.locals)
    (hP : va_P g.1 vwCl ws H) (hD : va_D A ws) (hS : va_S A s.heap H locs) (isC : List Nat) (hC : isC.map (fun i => ws[i]?) = wc.map some) (hnC : va_nd isC = true)
    (hn : As.length = n) (hl : ls.size = nL) (hst : st0 = As.reverse ++ rest) (hW : (rest.map fun v => v.category).sum ≤ 8) (hf : cells ≤ R.cells ∧ slots ≤ R.slots) (hdg : decode cc pc = .ok (.invokestatic index, 3)) :
    va_Run p l e R s m args below meth c H locs cells slots 0 0 (F0 m pc ls st0) rest (Qc As.toArray) (va_A wc H.size) := by
  obtain ⟨hx, hb, hml, hown, hts, hr, hlk, hN, hK, hF, hA⟩ := id C
  exact va_runSN ⟨hx, hb, hml, hown, hts⟩ hM ⟨va_cnB n hts hG hw hrc hrs (hN _ hnest) (hts _ hini) hd hR, hts _ hst1, trivial⟩ (pre_of C hP hD hS isC hC hnC As) rfl hn hl hst (lv_room hW) hdg ⟨hf.1, hf.2⟩
theorem k_i (C : Cx p s m args meth c own cc nL Ts ret g A) {a : Array Value} {r : Int32} (hr : va_Run p l e R s m args below meth c H locs cells slots 0 0 (F0 m pc ls st0) rest (gQi g w2 r (va_A wc H.size) a) (va_A wc H.size))
    (hP : va_P g.1 vwCl ws H) (hD : va_D A ws) (hS : va_S A s.heap H locs) (isC isR : List Nat) (hC : isC.map (fun i => ws[i]?) = wc.map some) (hR : isR.map (fun i => ws[i]?) = (isR.filterMap (fun i => ws[i]?)).map some) (hn : va_nd isR = true) (hdis : ∀ i ∈ isR, i ∉ isC)
    (kk : ∀ (H1 : Heap) (locs1 : List Loc), va_P g.1 vwCl (isR.filterMap (fun i => ws[i]?) ++ w2) H1 → va_D A (isR.filterMap (fun i => ws[i]?) ++ w2) → va_S A s.heap H1 locs1 → W p l e R s m args below meth c H1 locs1 cells slots Q (F0 m (pc + 3) ls (.int r :: rest))) : W p l e R s m args below meth c H locs cells slots Q (F0 m pc ls st0) := by
  obtain ⟨hx, hb, hml, hown, hts, hr0, hlk, hN, hK, hF, hA⟩ := id C
  have hFc := va_free hD hS hA isC hC
  refine va_calli hr hS (fun q _ h => hFc q h) hFc (fun r1 u t H1 locs1 ht hvm hw hB hz1 hk1 hS1 => ?_)
  cases hw
  obtain ⟨hP1, hK1, hD1⟩ := hB
  rw [ht] at hP1
  obtain ⟨hP2, hD2⟩ := va_join hP hD isC isR hC hR hn hdis hk1 hFc hP1 hD1
  exact kk H1 locs1 hP2 hD2 hS1
theorem k_l (C : Cx p s m args meth c own cc nL Ts ret g A) {a : Array Value} {r : Int64} (hr : va_Run p l e R s m args below meth c H locs cells slots 0 0 (F0 m pc ls st0) rest (gQl g w2 r (va_A wc H.size) a) (va_A wc H.size))
    (hP : va_P g.1 vwCl ws H) (hD : va_D A ws) (hS : va_S A s.heap H locs) (isC isR : List Nat) (hC : isC.map (fun i => ws[i]?) = wc.map some) (hR : isR.map (fun i => ws[i]?) = (isR.filterMap (fun i => ws[i]?)).map some) (hn : va_nd isR = true) (hdis : ∀ i ∈ isR, i ∉ isC)
    (kk : ∀ (H1 : Heap) (locs1 : List Loc), va_P g.1 vwCl (isR.filterMap (fun i => ws[i]?) ++ w2) H1 → va_D A (isR.filterMap (fun i => ws[i]?) ++ w2) → va_S A s.heap H1 locs1 → W p l e R s m args below meth c H1 locs1 cells slots Q (F0 m (pc + 3) ls (.long r :: rest))) : W p l e R s m args below meth c H locs cells slots Q (F0 m pc ls st0) := by
  obtain ⟨hx, hb, hml, hown, hts, hr0, hlk, hN, hK, hF, hA⟩ := id C
  have hFc := va_free hD hS hA isC hC
  refine va_calll hr hS (fun q _ h => hFc q h) hFc (fun r1 u t H1 locs1 ht hvm hw hB hz1 hk1 hS1 => ?_)
  cases hw
  obtain ⟨hP1, hK1, hD1⟩ := hB
  rw [ht] at hP1
  obtain ⟨hP2, hD2⟩ := va_join hP hD isC isR hC hR hn hdis hk1 hFc hP1 hD1
  exact kk H1 locs1 hP2 hD2 hS1
theorem k_q (C : Cx p s m args meth c own cc nL Ts ret g A) {a : Array Value} {r : Option Nat} (hr : va_Run p l e R s m args below meth c H locs cells slots 0 0 (F0 m pc ls st0) rest (gQq g w2 r (va_A wc H.size) a) (va_A wc H.size))
    (hP : va_P g.1 vwCl ws H) (hD : va_D A ws) (hS : va_S A s.heap H locs) (isC isR : List Nat) (hC : isC.map (fun i => ws[i]?) = wc.map some) (hR : isR.map (fun i => ws[i]?) = (isR.filterMap (fun i => ws[i]?)).map some) (hn : va_nd isR = true) (hdis : ∀ i ∈ isR, i ∉ isC)
    (kk : ∀ (H1 : Heap) (locs1 : List Loc), va_P g.1 vwCl (isR.filterMap (fun i => ws[i]?) ++ w2) H1 → va_D A (isR.filterMap (fun i => ws[i]?) ++ w2) → va_S A s.heap H1 locs1 → W p l e R s m args below meth c H1 locs1 cells slots Q (F0 m (pc + 3) ls (va_rf r :: rest))) : W p l e R s m args below meth c H locs cells slots Q (F0 m pc ls st0) := by
  obtain ⟨hx, hb, hml, hown, hts, hr0, hlk, hN, hK, hF, hA⟩ := id C
  have hFc := va_free hD hS hA isC hC
  refine va_callq hr hS (fun q _ h => hFc q h) hFc (fun r1 u t H1 locs1 ht hvm hw hB hz1 hk1 hS1 => ?_)
  cases hw
  obtain ⟨hP1, hK1, hD1⟩ := hB
  rw [ht] at hP1
  obtain ⟨hP2, hD2⟩ := va_join hP hD isC isR hC hR hn hdis hk1 hFc hP1 hD1
  exact kk H1 locs1 hP2 hD2 hS1
theorem k_v (C : Cx p s m args meth c own cc nL Ts ret g A) {a : Array Value} (hr : va_Run p l e R s m args below meth c H locs cells slots 0 0 (F0 m pc ls st0) rest (gQv g w2 (va_A wc H.size) a) (va_A wc H.size))
    (hP : va_P g.1 vwCl ws H) (hD : va_D A ws) (hS : va_S A s.heap H locs) (isC isR : List Nat) (hC : isC.map (fun i => ws[i]?) = wc.map some) (hR : isR.map (fun i => ws[i]?) = (isR.filterMap (fun i => ws[i]?)).map some) (hn : va_nd isR = true) (hdis : ∀ i ∈ isR, i ∉ isC)
    (kk : ∀ (H1 : Heap) (locs1 : List Loc), va_P g.1 vwCl (isR.filterMap (fun i => ws[i]?) ++ w2) H1 → va_D A (isR.filterMap (fun i => ws[i]?) ++ w2) → va_S A s.heap H1 locs1 → W p l e R s m args below meth c H1 locs1 cells slots Q (F0 m (pc + 3) ls rest)) : W p l e R s m args below meth c H locs cells slots Q (F0 m pc ls st0) := by
  obtain ⟨hx, hb, hml, hown, hts, hr0, hlk, hN, hK, hF, hA⟩ := id C
  have hFc := va_free hD hS hA isC hC
  refine va_callv hr hS (fun q _ h => hFc q h) hFc (fun u t H1 locs1 ht hvm hw hB hz1 hk1 hS1 => ?_)
  obtain ⟨hP1, hK1, hD1⟩ := hB
  rw [ht] at hP1
  obtain ⟨hP2, hD2⟩ := va_join hP hD isC isR hC hR hn hdis hk1 hFc hP1 hD1
  exact kk H1 locs1 hP2 hD2 hS1
end GR
/-! threading what the pure program says along the walk -/
theorem it_t {α : Sort _} {c : Prop} {d : Decidable c} {a b r : α} (h : @ite _ c d a b = r) (hc : c) : a = r := (if_pos hc).symm.trans h
theorem it_f {α : Sort _} {c : Prop} {d : Decidable c} {a b r : α} (h : @ite _ c d a b = r) (hc : ¬ c) : b = r := (if_neg hc).symm.trans h
theorem gd1 {α : Type _} {c : Prop} {d : Decidable c} {a : Option α} {r : α} (h : @ite _ c d none a = some r) : ¬ c := fun hc => by rw [if_pos hc] at h; cases h
theorem gd2 {α : Type _} {c : Prop} {d : Decidable c} {a : Option α} {r : α} (h : @ite _ c d none a = some r) : a = some r := it_f h (gd1 h)
theorem bd {α β : Type _} {x : Option α} {k : α → Option β} {r : β} (h : x.bind k = some r) : ∃ a, x = some a ∧ k a = some r := by
  cases x with
  | none => cases h
  | some a => exact ⟨a, rfl, h⟩
/-- a boolean's narrowing -/
def nb (x : Int32) : Int32 := vp_nar .boolean x
