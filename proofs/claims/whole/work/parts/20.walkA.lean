set_option maxHeartbeats 4000000 in
set_option maxRecDepth 100000 in
theorem c_X0_begin (l : Launch) (g : gG) {q_this q_past : Nat} {v_way : Int32} {v_moons : Int32} {v_burnt : Int32} {v_out : Int32} {v_known : Int32} {v_isKept : Int32} {u0 : Int32 × Int32 × Int32 × Int32 × Int32 × Int32} (hres : f_X0_begin  = some u0) : Cv l g yX0_begin wsX0_begin rm_X0_begin [.ref q_this] [(q_this, .inr (0, [.int v_way, .int v_moons, .int v_burnt, .int v_out, .int v_known, .ref q_past, .int v_isKept]))] [(q_this, .inr (0, [.int u0.1, .int u0.2.1, .int u0.2.2.1, .int u0.2.2.2.1, .int u0.2.2.2.2.1, .ref q_past, .int u0.2.2.2.2.2]))] := by
  intro sz
  refine gBody (Qf := fun A => gQv g [(q_this, .inr (0, [.int u0.1, .int u0.2.1, .int u0.2.2.1, .int u0.2.2.2.1, .int u0.2.2.2.2.1, .ref q_past, .int u0.2.2.2.2.2]))] A) (cc := cX0_begin) (maxL := 1) (ret := none) (own := RX0) (by decide +kernel) rfl rfl (Nat.le_of_ble_eq_true rfl) ?_
  intro p e s m args below meth c A C0 H hS hD hP ls hl
  obtain ⟨hx, hb, hml, hown, hts, hr, hlk, hN, hK, hF, hA⟩ := id C0
  have hl : lv_has ls 1 [(0, .ref q_this)] := hl
  unfold f_X0_begin at hres
  refine lv_aload_n hx hb dX0_begin_0 rfl (lv_at hl 0 rfl) ?_
  refine lv_iconst (v := 0) hx hb dX0_begin_1 (by decide) ?_
  refine va_put (D := g.1) (ci := 0) (v := .int 0) (ty := .int) (C := RX0) (T := TX0) (N := 7) hx hb hts in_X0_begin_X0 tyX0 tyX0_ok nmX0 hown hK hP hD hS 0 rfl rfl 0 (by decide) (hts (.fieldLink RX0 15 "LightKeepers$Moment" "way" "I") (List.mem_of_getElem? (i := 1) rfl)) (fun _ h9 => h9) rfl (tyX0_ok 0 (by decide)) rfl rfl (Nat.le_of_ble_eq_true rfl) dX0_begin_2 (fun H locs hP hD hS => ?_)
  have hP : va_P g.1 vwCl [(q_this, .inr (0, [.int 0, .int v_moons, .int v_burnt, .int v_out, .int v_known, .ref q_past, .int v_isKept]))] H := hP
  have hD : va_D A [(q_this, .inr (0, [.int 0, .int v_moons, .int v_burnt, .int v_out, .int v_known, .ref q_past, .int v_isKept]))] := hD
  refine lv_aload_n hx hb dX0_begin_5 rfl (lv_at hl 0 rfl) ?_
  refine lv_iconst (v := 0) hx hb dX0_begin_6 (by decide) ?_
  refine va_put (D := g.1) (ci := 0) (v := .int 0) (ty := .int) (C := RX0) (T := TX0) (N := 7) hx hb hts in_X0_begin_X0 tyX0 tyX0_ok nmX0 hown hK hP hD hS 0 rfl rfl 1 (by decide) (hts (.fieldLink RX0 19 "LightKeepers$Moment" "moons" "I") (List.mem_of_getElem? (i := 2) rfl)) (fun _ h9 => h9) rfl (tyX0_ok 1 (by decide)) rfl rfl (Nat.le_of_ble_eq_true rfl) dX0_begin_7 (fun H locs hP hD hS => ?_)
  have hP : va_P g.1 vwCl [(q_this, .inr (0, [.int 0, .int 0, .int v_burnt, .int v_out, .int v_known, .ref q_past, .int v_isKept]))] H := hP
  have hD : va_D A [(q_this, .inr (0, [.int 0, .int 0, .int v_burnt, .int v_out, .int v_known, .ref q_past, .int v_isKept]))] := hD
  refine lv_aload_n hx hb dX0_begin_10 rfl (lv_at hl 0 rfl) ?_
  refine lv_iconst (v := 0) hx hb dX0_begin_11 (by decide) ?_
  refine va_put (D := g.1) (ci := 0) (v := .int 0) (ty := .int) (C := RX0) (T := TX0) (N := 7) hx hb hts in_X0_begin_X0 tyX0 tyX0_ok nmX0 hown hK hP hD hS 0 rfl rfl 2 (by decide) (hts (.fieldLink RX0 22 "LightKeepers$Moment" "burnt" "I") (List.mem_of_getElem? (i := 3) rfl)) (fun _ h9 => h9) rfl (tyX0_ok 2 (by decide)) rfl rfl (Nat.le_of_ble_eq_true rfl) dX0_begin_12 (fun H locs hP hD hS => ?_)
  have hP : va_P g.1 vwCl [(q_this, .inr (0, [.int 0, .int 0, .int 0, .int v_out, .int v_known, .ref q_past, .int v_isKept]))] H := hP
  have hD : va_D A [(q_this, .inr (0, [.int 0, .int 0, .int 0, .int v_out, .int v_known, .ref q_past, .int v_isKept]))] := hD
  refine lv_aload_n hx hb dX0_begin_15 rfl (lv_at hl 0 rfl) ?_
  refine lv_iconst (v := 0) hx hb dX0_begin_16 (by decide) ?_
  refine va_put (D := g.1) (ci := 0) (v := .int 0) (ty := .int) (C := RX0) (T := TX0) (N := 7) hx hb hts in_X0_begin_X0 tyX0 tyX0_ok nmX0 hown hK hP hD hS 0 rfl rfl 3 (by decide) (hts (.fieldLink RX0 25 "LightKeepers$Moment" "out" "I") (List.mem_of_getElem? (i := 4) rfl)) (fun _ h9 => h9) rfl (tyX0_ok 3 (by decide)) rfl rfl (Nat.le_of_ble_eq_true rfl) dX0_begin_17 (fun H locs hP hD hS => ?_)
  have hP : va_P g.1 vwCl [(q_this, .inr (0, [.int 0, .int 0, .int 0, .int 0, .int v_known, .ref q_past, .int v_isKept]))] H := hP
  have hD : va_D A [(q_this, .inr (0, [.int 0, .int 0, .int 0, .int 0, .int v_known, .ref q_past, .int v_isKept]))] := hD
  refine lv_aload_n hx hb dX0_begin_20 rfl (lv_at hl 0 rfl) ?_
  refine lv_iconst (v := 0) hx hb dX0_begin_21 (by decide) ?_
  refine va_put (D := g.1) (ci := 0) (v := .int 0) (ty := .int) (C := RX0) (T := TX0) (N := 7) hx hb hts in_X0_begin_X0 tyX0 tyX0_ok nmX0 hown hK hP hD hS 0 rfl rfl 4 (by decide) (hts (.fieldLink RX0 28 "LightKeepers$Moment" "known" "I") (List.mem_of_getElem? (i := 5) rfl)) (fun _ h9 => h9) rfl (tyX0_ok 4 (by decide)) rfl rfl (Nat.le_of_ble_eq_true rfl) dX0_begin_22 (fun H locs hP hD hS => ?_)
  have hP : va_P g.1 vwCl [(q_this, .inr (0, [.int 0, .int 0, .int 0, .int 0, .int 0, .ref q_past, .int v_isKept]))] H := hP
  have hD : va_D A [(q_this, .inr (0, [.int 0, .int 0, .int 0, .int 0, .int 0, .ref q_past, .int v_isKept]))] := hD
  refine lv_aload_n hx hb dX0_begin_25 rfl (lv_at hl 0 rfl) ?_
  refine lv_iconst (v := 0) hx hb dX0_begin_26 (by decide) ?_
  refine va_put (D := g.1) (ci := 0) (v := .int 0) (ty := .boolean) (C := RX0) (T := TX0) (N := 7) hx hb hts in_X0_begin_X0 tyX0 tyX0_ok nmX0 hown hK hP hD hS 0 rfl rfl 6 (by decide) (hts (.fieldLink RX0 31 "LightKeepers$Moment" "isKept" "Z") (List.mem_of_getElem? (i := 6) rfl)) (fun _ h9 => h9) rfl (tyX0_ok 6 (by decide)) rfl rfl (Nat.le_of_ble_eq_true rfl) dX0_begin_27 (fun H locs hP hD hS => ?_)
  have hP : va_P g.1 vwCl [(q_this, .inr (0, [.int 0, .int 0, .int 0, .int 0, .int 0, .ref q_past, .int 0]))] H := hP
  have hD : va_D A [(q_this, .inr (0, [.int 0, .int 0, .int 0, .int 0, .int 0, .ref q_past, .int 0]))] := hD
  cases hres
  exact ret_v C0 hP hD hS dX0_begin_30
set_option maxHeartbeats 4000000 in
set_option maxRecDepth 100000 in
theorem c_X0_become (l : Launch) (g : gG) {q_this q_past q_a1 q_a1_past : Nat} {v_way : Int32} {v_moons : Int32} {v_burnt : Int32} {v_out : Int32} {v_known : Int32} {v_isKept : Int32} {v_a1_way : Int32} {v_a1_moons : Int32} {v_a1_burnt : Int32} {v_a1_out : Int32} {v_a1_known : Int32} {v_a1_isKept : Int32} {f_a1_past : Nat → Int32} {f_past : Nat → Int32} {u0 : Int32 × Int32 × Int32 × Int32 × Int32 × (Nat → Int32)} (hres : f_X0_become v_a1_way v_a1_moons v_a1_burnt v_a1_out v_a1_known f_a1_past f_past = some u0) : Cv l g yX0_become wsX0_become rm_X0_become [.ref q_this, .ref q_a1] [(q_this, .inr (0, [.int v_way, .int v_moons, .int v_burnt, .int v_out, .int v_known, .ref q_past, .int v_isKept])), (q_a1, .inr (0, [.int v_a1_way, .int v_a1_moons, .int v_a1_burnt, .int v_a1_out, .int v_a1_known, .ref q_a1_past, .int v_a1_isKept])), (q_a1_past, .inl (g.2.1, 40, .inl f_a1_past)), (q_past, .inl (g.2.1, 40, .inl f_past))] [(q_this, .inr (0, [.int u0.1, .int u0.2.1, .int u0.2.2.1, .int u0.2.2.2.1, .int u0.2.2.2.2.1, .ref q_past, .int v_isKept])), (q_a1, .inr (0, [.int v_a1_way, .int v_a1_moons, .int v_a1_burnt, .int v_a1_out, .int v_a1_known, .ref q_a1_past, .int v_a1_isKept])), (q_a1_past, .inl (g.2.1, 40, .inl f_a1_past)), (q_past, .inl (g.2.1, 40, .inl u0.2.2.2.2.2))] := by
  intro sz
  refine gBody (Qf := fun A => gQv g [(q_this, .inr (0, [.int u0.1, .int u0.2.1, .int u0.2.2.1, .int u0.2.2.2.1, .int u0.2.2.2.2.1, .ref q_past, .int v_isKept])), (q_a1, .inr (0, [.int v_a1_way, .int v_a1_moons, .int v_a1_burnt, .int v_a1_out, .int v_a1_known, .ref q_a1_past, .int v_a1_isKept])), (q_a1_past, .inl (g.2.1, 40, .inl f_a1_past)), (q_past, .inl (g.2.1, 40, .inl u0.2.2.2.2.2))] A) (cc := cX0_become) (maxL := 2) (ret := none) (own := RX0) (by decide +kernel) rfl rfl (Nat.le_of_ble_eq_true rfl) ?_
  intro p e s m args below meth c A C0 H hS hD hP ls hl
  obtain ⟨hx, hb, hml, hown, hts, hr, hlk, hN, hK, hF, hA⟩ := id C0
  have hl : lv_has ls 2 [(0, .ref q_this), (1, .ref q_a1)] := hl
  unfold f_X0_become at hres
  refine lv_aload_n hx hb dX0_become_0 rfl (lv_at hl 0 rfl) ?_
  refine lv_aload_n hx hb dX0_become_1 rfl (lv_at hl 1 rfl) ?_
  refine va_get (D := g.1) (ci := 0) (v := .int v_a1_way) (C := RX0) (T := TX0) (N := 7) hx hb hts in_X0_become_X0 hown hK hP 1 rfl rfl 0 (by decide) (hts (.fieldLink RX0 15 "LightKeepers$Moment" "way" "I") (List.mem_of_getElem? (i := 1) rfl)) (fun _ h9 => h9) rfl dX0_become_2 ?_
  refine va_put (D := g.1) (ci := 0) (v := .int v_a1_way) (ty := .int) (C := RX0) (T := TX0) (N := 7) hx hb hts in_X0_become_X0 tyX0 tyX0_ok nmX0 hown hK hP hD hS 0 rfl rfl 0 (by decide) (hts (.fieldLink RX0 15 "LightKeepers$Moment" "way" "I") (List.mem_of_getElem? (i := 1) rfl)) (fun _ h9 => h9) rfl (tyX0_ok 0 (by decide)) rfl rfl (Nat.le_of_ble_eq_true rfl) dX0_become_5 (fun H locs hP hD hS => ?_)
  have hP : va_P g.1 vwCl [(q_this, .inr (0, [.int v_a1_way, .int v_moons, .int v_burnt, .int v_out, .int v_known, .ref q_past, .int v_isKept])), (q_a1, .inr (0, [.int v_a1_way, .int v_a1_moons, .int v_a1_burnt, .int v_a1_out, .int v_a1_known, .ref q_a1_past, .int v_a1_isKept])), (q_a1_past, .inl (g.2.1, 40, .inl f_a1_past)), (q_past, .inl (g.2.1, 40, .inl f_past))] H := hP
  have hD : va_D A [(q_this, .inr (0, [.int v_a1_way, .int v_moons, .int v_burnt, .int v_out, .int v_known, .ref q_past, .int v_isKept])), (q_a1, .inr (0, [.int v_a1_way, .int v_a1_moons, .int v_a1_burnt, .int v_a1_out, .int v_a1_known, .ref q_a1_past, .int v_a1_isKept])), (q_a1_past, .inl (g.2.1, 40, .inl f_a1_past)), (q_past, .inl (g.2.1, 40, .inl f_past))] := hD
  refine lv_aload_n hx hb dX0_become_8 rfl (lv_at hl 0 rfl) ?_
  refine lv_aload_n hx hb dX0_become_9 rfl (lv_at hl 1 rfl) ?_
  refine va_get (D := g.1) (ci := 0) (v := .int v_a1_moons) (C := RX0) (T := TX0) (N := 7) hx hb hts in_X0_become_X0 hown hK hP 1 rfl rfl 1 (by decide) (hts (.fieldLink RX0 19 "LightKeepers$Moment" "moons" "I") (List.mem_of_getElem? (i := 2) rfl)) (fun _ h9 => h9) rfl dX0_become_10 ?_
  refine va_put (D := g.1) (ci := 0) (v := .int v_a1_moons) (ty := .int) (C := RX0) (T := TX0) (N := 7) hx hb hts in_X0_become_X0 tyX0 tyX0_ok nmX0 hown hK hP hD hS 0 rfl rfl 1 (by decide) (hts (.fieldLink RX0 19 "LightKeepers$Moment" "moons" "I") (List.mem_of_getElem? (i := 2) rfl)) (fun _ h9 => h9) rfl (tyX0_ok 1 (by decide)) rfl rfl (Nat.le_of_ble_eq_true rfl) dX0_become_13 (fun H locs hP hD hS => ?_)
  have hP : va_P g.1 vwCl [(q_this, .inr (0, [.int v_a1_way, .int v_a1_moons, .int v_burnt, .int v_out, .int v_known, .ref q_past, .int v_isKept])), (q_a1, .inr (0, [.int v_a1_way, .int v_a1_moons, .int v_a1_burnt, .int v_a1_out, .int v_a1_known, .ref q_a1_past, .int v_a1_isKept])), (q_a1_past, .inl (g.2.1, 40, .inl f_a1_past)), (q_past, .inl (g.2.1, 40, .inl f_past))] H := hP
  have hD : va_D A [(q_this, .inr (0, [.int v_a1_way, .int v_a1_moons, .int v_burnt, .int v_out, .int v_known, .ref q_past, .int v_isKept])), (q_a1, .inr (0, [.int v_a1_way, .int v_a1_moons, .int v_a1_burnt, .int v_a1_out, .int v_a1_known, .ref q_a1_past, .int v_a1_isKept])), (q_a1_past, .inl (g.2.1, 40, .inl f_a1_past)), (q_past, .inl (g.2.1, 40, .inl f_past))] := hD
  refine lv_aload_n hx hb dX0_become_16 rfl (lv_at hl 0 rfl) ?_
  refine lv_aload_n hx hb dX0_become_17 rfl (lv_at hl 1 rfl) ?_
  refine va_get (D := g.1) (ci := 0) (v := .int v_a1_burnt) (C := RX0) (T := TX0) (N := 7) hx hb hts in_X0_become_X0 hown hK hP 1 rfl rfl 2 (by decide) (hts (.fieldLink RX0 22 "LightKeepers$Moment" "burnt" "I") (List.mem_of_getElem? (i := 3) rfl)) (fun _ h9 => h9) rfl dX0_become_18 ?_
  refine va_put (D := g.1) (ci := 0) (v := .int v_a1_burnt) (ty := .int) (C := RX0) (T := TX0) (N := 7) hx hb hts in_X0_become_X0 tyX0 tyX0_ok nmX0 hown hK hP hD hS 0 rfl rfl 2 (by decide) (hts (.fieldLink RX0 22 "LightKeepers$Moment" "burnt" "I") (List.mem_of_getElem? (i := 3) rfl)) (fun _ h9 => h9) rfl (tyX0_ok 2 (by decide)) rfl rfl (Nat.le_of_ble_eq_true rfl) dX0_become_21 (fun H locs hP hD hS => ?_)
  have hP : va_P g.1 vwCl [(q_this, .inr (0, [.int v_a1_way, .int v_a1_moons, .int v_a1_burnt, .int v_out, .int v_known, .ref q_past, .int v_isKept])), (q_a1, .inr (0, [.int v_a1_way, .int v_a1_moons, .int v_a1_burnt, .int v_a1_out, .int v_a1_known, .ref q_a1_past, .int v_a1_isKept])), (q_a1_past, .inl (g.2.1, 40, .inl f_a1_past)), (q_past, .inl (g.2.1, 40, .inl f_past))] H := hP
  have hD : va_D A [(q_this, .inr (0, [.int v_a1_way, .int v_a1_moons, .int v_a1_burnt, .int v_out, .int v_known, .ref q_past, .int v_isKept])), (q_a1, .inr (0, [.int v_a1_way, .int v_a1_moons, .int v_a1_burnt, .int v_a1_out, .int v_a1_known, .ref q_a1_past, .int v_a1_isKept])), (q_a1_past, .inl (g.2.1, 40, .inl f_a1_past)), (q_past, .inl (g.2.1, 40, .inl f_past))] := hD
  refine lv_aload_n hx hb dX0_become_24 rfl (lv_at hl 0 rfl) ?_
  refine lv_aload_n hx hb dX0_become_25 rfl (lv_at hl 1 rfl) ?_
  refine va_get (D := g.1) (ci := 0) (v := .int v_a1_out) (C := RX0) (T := TX0) (N := 7) hx hb hts in_X0_become_X0 hown hK hP 1 rfl rfl 3 (by decide) (hts (.fieldLink RX0 25 "LightKeepers$Moment" "out" "I") (List.mem_of_getElem? (i := 4) rfl)) (fun _ h9 => h9) rfl dX0_become_26 ?_
  refine va_put (D := g.1) (ci := 0) (v := .int v_a1_out) (ty := .int) (C := RX0) (T := TX0) (N := 7) hx hb hts in_X0_become_X0 tyX0 tyX0_ok nmX0 hown hK hP hD hS 0 rfl rfl 3 (by decide) (hts (.fieldLink RX0 25 "LightKeepers$Moment" "out" "I") (List.mem_of_getElem? (i := 4) rfl)) (fun _ h9 => h9) rfl (tyX0_ok 3 (by decide)) rfl rfl (Nat.le_of_ble_eq_true rfl) dX0_become_29 (fun H locs hP hD hS => ?_)
  have hP : va_P g.1 vwCl [(q_this, .inr (0, [.int v_a1_way, .int v_a1_moons, .int v_a1_burnt, .int v_a1_out, .int v_known, .ref q_past, .int v_isKept])), (q_a1, .inr (0, [.int v_a1_way, .int v_a1_moons, .int v_a1_burnt, .int v_a1_out, .int v_a1_known, .ref q_a1_past, .int v_a1_isKept])), (q_a1_past, .inl (g.2.1, 40, .inl f_a1_past)), (q_past, .inl (g.2.1, 40, .inl f_past))] H := hP
  have hD : va_D A [(q_this, .inr (0, [.int v_a1_way, .int v_a1_moons, .int v_a1_burnt, .int v_a1_out, .int v_known, .ref q_past, .int v_isKept])), (q_a1, .inr (0, [.int v_a1_way, .int v_a1_moons, .int v_a1_burnt, .int v_a1_out, .int v_a1_known, .ref q_a1_past, .int v_a1_isKept])), (q_a1_past, .inl (g.2.1, 40, .inl f_a1_past)), (q_past, .inl (g.2.1, 40, .inl f_past))] := hD
  refine lv_aload_n hx hb dX0_become_32 rfl (lv_at hl 0 rfl) ?_
  refine lv_aload_n hx hb dX0_become_33 rfl (lv_at hl 1 rfl) ?_
  refine va_get (D := g.1) (ci := 0) (v := .int v_a1_known) (C := RX0) (T := TX0) (N := 7) hx hb hts in_X0_become_X0 hown hK hP 1 rfl rfl 4 (by decide) (hts (.fieldLink RX0 28 "LightKeepers$Moment" "known" "I") (List.mem_of_getElem? (i := 5) rfl)) (fun _ h9 => h9) rfl dX0_become_34 ?_
  refine va_put (D := g.1) (ci := 0) (v := .int v_a1_known) (ty := .int) (C := RX0) (T := TX0) (N := 7) hx hb hts in_X0_become_X0 tyX0 tyX0_ok nmX0 hown hK hP hD hS 0 rfl rfl 4 (by decide) (hts (.fieldLink RX0 28 "LightKeepers$Moment" "known" "I") (List.mem_of_getElem? (i := 5) rfl)) (fun _ h9 => h9) rfl (tyX0_ok 4 (by decide)) rfl rfl (Nat.le_of_ble_eq_true rfl) dX0_become_37 (fun H locs hP hD hS => ?_)
  have hP : va_P g.1 vwCl [(q_this, .inr (0, [.int v_a1_way, .int v_a1_moons, .int v_a1_burnt, .int v_a1_out, .int v_a1_known, .ref q_past, .int v_isKept])), (q_a1, .inr (0, [.int v_a1_way, .int v_a1_moons, .int v_a1_burnt, .int v_a1_out, .int v_a1_known, .ref q_a1_past, .int v_a1_isKept])), (q_a1_past, .inl (g.2.1, 40, .inl f_a1_past)), (q_past, .inl (g.2.1, 40, .inl f_past))] H := hP
  have hD : va_D A [(q_this, .inr (0, [.int v_a1_way, .int v_a1_moons, .int v_a1_burnt, .int v_a1_out, .int v_a1_known, .ref q_past, .int v_isKept])), (q_a1, .inr (0, [.int v_a1_way, .int v_a1_moons, .int v_a1_burnt, .int v_a1_out, .int v_a1_known, .ref q_a1_past, .int v_a1_isKept])), (q_a1_past, .inl (g.2.1, 40, .inl f_a1_past)), (q_past, .inl (g.2.1, 40, .inl f_past))] := hD
  refine lv_aload_n hx hb dX0_become_40 rfl (lv_at hl 1 rfl) ?_
  refine va_get (D := g.1) (ci := 0) (v := .ref q_a1_past) (C := RX0) (T := TX0) (N := 7) hx hb hts in_X0_become_X0 hown hK hP 1 rfl rfl 5 (by decide) (hts (.fieldLink RX0 11 "LightKeepers$Moment" "past" "[I") (List.mem_of_getElem? (i := 6) rfl)) (fun _ h9 => h9) rfl dX0_become_41 ?_
  refine lv_iconst (v := 0) hx hb dX0_become_44 (by decide) ?_
  refine lv_aload_n hx hb dX0_become_45 rfl (lv_at hl 0 rfl) ?_
  refine va_get (D := g.1) (ci := 0) (v := .ref q_past) (C := RX0) (T := TX0) (N := 7) hx hb hts in_X0_become_X0 hown hK hP 0 rfl rfl 5 (by decide) (hts (.fieldLink RX0 11 "LightKeepers$Moment" "past" "[I") (List.mem_of_getElem? (i := 6) rfl)) (fun _ h9 => h9) rfl dX0_become_46 ?_
  refine lv_iconst (v := 0) hx hb dX0_become_49 (by decide) ?_
  refine lv_bipush (v := 40) hx hb dX0_become_50 (by decide) ?_
  refine va_copyi hx hb (hml.trans hl.1.symm) hown (hts (.methodLink RX0 35 arraycopyName) (List.mem_of_getElem? (i := 7) rfl)) (hts (.native arraycopyName) (List.mem_of_getElem? (i := 8) rfl)) (hts (.static arraycopyName) (List.mem_of_getElem? (i := 9) rfl)) (hts (.initialized "java/lang/System") (List.mem_of_getElem? (i := 10) rfl)) hK hP hD hS 2 3 0 0 rfl rfl rfl rfl rfl (by decide) (by decide) (by decide) (by decide) (by decide) (fun _ _ => rfl) (Nat.le_of_ble_eq_true rfl) (Nat.le_of_ble_eq_true rfl) dX0_become_52 (fun H locs hP hD hS => ?_)
  have hP : va_P g.1 vwCl [(q_this, .inr (0, [.int v_a1_way, .int v_a1_moons, .int v_a1_burnt, .int v_a1_out, .int v_a1_known, .ref q_past, .int v_isKept])), (q_a1, .inr (0, [.int v_a1_way, .int v_a1_moons, .int v_a1_burnt, .int v_a1_out, .int v_a1_known, .ref q_a1_past, .int v_a1_isKept])), (q_a1_past, .inl (g.2.1, 40, .inl f_a1_past)), (q_past, .inl (g.2.1, 40, .inl (va_cpy f_a1_past f_past (Int32.toNatClampNeg 0) (Int32.toNatClampNeg 0) (Int32.toNatClampNeg 40))))] H := hP
  have hD : va_D A [(q_this, .inr (0, [.int v_a1_way, .int v_a1_moons, .int v_a1_burnt, .int v_a1_out, .int v_a1_known, .ref q_past, .int v_isKept])), (q_a1, .inr (0, [.int v_a1_way, .int v_a1_moons, .int v_a1_burnt, .int v_a1_out, .int v_a1_known, .ref q_a1_past, .int v_a1_isKept])), (q_a1_past, .inl (g.2.1, 40, .inl f_a1_past)), (q_past, .inl (g.2.1, 40, .inl (va_cpy f_a1_past f_past (Int32.toNatClampNeg 0) (Int32.toNatClampNeg 0) (Int32.toNatClampNeg 40))))] := hD
  cases hres
  exact ret_v C0 hP hD hS dX0_become_55
set_option maxHeartbeats 4000000 in
set_option maxRecDepth 100000 in
theorem c_X6_put (l : Launch) (g : gG) {q_a0 : Nat} {n_a0 : Nat} {f_a0 : Nat → Int32} {x1 : Int32} {x2 : Int32} {u0 : (Nat → Int32)} (hres : f_X6_put n_a0 f_a0 x1 x2 = some u0) : Cv l g yX6_put wsX6_put rm_X6_put [.ref q_a0, .int x1, .int x2] [(q_a0, .inl (g.2.1, n_a0, .inl f_a0))] [(q_a0, .inl (g.2.1, n_a0, .inl u0))] := by
  intro sz
  refine gBody (Qf := fun A => gQv g [(q_a0, .inl (g.2.1, n_a0, .inl u0))] A) (cc := cX6_put) (maxL := 3) (ret := none) (own := RX6) (by decide +kernel) rfl rfl (Nat.le_of_ble_eq_true rfl) ?_
  intro p e s m args below meth c A C0 H hS hD hP ls hl
  obtain ⟨hx, hb, hml, hown, hts, hr, hlk, hN, hK, hF, hA⟩ := id C0
  have hl : lv_has ls 3 [(0, .ref q_a0), (1, .int x1), (2, .int x2)] := hl
  unfold f_X6_put at hres
  refine lv_iload_n hx hb dX6_put_0 rfl (lv_at hl 1 rfl) ?_
  refine lv_if_lt (tgt := 14) hx hb dX6_put_1 (by decide) (fun c1 => ?_) (fun c1 => ?_)
  · have hres := it_t hres c1
    cases hres
    exact ret_v C0 hP hD hS dX6_put_14
  · have hres := it_f hres c1
    refine lv_iload_n hx hb dX6_put_4 rfl (lv_at hl 1 rfl) ?_
    refine lv_aload_n hx hb dX6_put_5 rfl (lv_at hl 0 rfl) ?_
    refine va_alen (v := (Int32.ofNat n_a0)) hx hb hK hP 0 0 rfl rfl rfl dX6_put_6 ?_
    refine lv_icmp_ge (tgt := 14) hx hb dX6_put_7 (by decide) (fun c2 => ?_) (fun c2 => ?_)
    · have hres := it_t hres c2
      cases hres
      exact ret_v C0 hP hD hS dX6_put_14
    · have hres := it_f hres c2
      refine lv_aload_n hx hb dX6_put_10 rfl (lv_at hl 0 rfl) ?_
      refine lv_iload_n hx hb dX6_put_11 rfl (lv_at hl 1 rfl) ?_
      refine lv_iload_n hx hb dX6_put_12 rfl (lv_at hl 2 rfl) ?_
      have c3 := gd1 hres
      have hres := gd2 hres
      refine va_iast hx hb hK hP hD hS 0 0 rfl rfl (show vp_in _ _ from c3) dX6_put_13 (fun H locs hP hD hS => ?_)
      have hP : va_P g.1 vwCl [(q_a0, .inl (g.2.1, n_a0, .inl (upd f_a0 x1.toNatClampNeg x2)))] H := hP
      have hD : va_D A [(q_a0, .inl (g.2.1, n_a0, .inl (upd f_a0 x1.toNatClampNeg x2)))] := hD
      cases hres
      exact ret_v C0 hP hD hS dX6_put_14
set_option maxHeartbeats 4000000 in
set_option maxRecDepth 100000 in
theorem c_X0_remember (l : Launch) (g : gG) {q_this q_past : Nat} {v_way : Int32} {v_moons : Int32} {v_burnt : Int32} {v_out : Int32} {v_known : Int32} {v_isKept : Int32} {f_past : Nat → Int32} {u0 : Int32 × (Nat → Int32)} (hres : f_X0_remember v_way v_moons v_burnt v_out v_known f_past = some u0) : Cv l g yX0_remember wsX0_remember rm_X0_remember [.ref q_this] [(q_this, .inr (0, [.int v_way, .int v_moons, .int v_burnt, .int v_out, .int v_known, .ref q_past, .int v_isKept])), (q_past, .inl (g.2.1, 40, .inl f_past))] [(q_this, .inr (0, [.int v_way, .int v_moons, .int v_burnt, .int v_out, .int u0.1, .ref q_past, .int v_isKept])), (q_past, .inl (g.2.1, 40, .inl u0.2))] := by
  intro sz
  refine gBody (Qf := fun A => gQv g [(q_this, .inr (0, [.int v_way, .int v_moons, .int v_burnt, .int v_out, .int u0.1, .ref q_past, .int v_isKept])), (q_past, .inl (g.2.1, 40, .inl u0.2))] A) (cc := cX0_remember) (maxL := 2) (ret := none) (own := RX0) (by decide +kernel) rfl rfl (Nat.le_of_ble_eq_true rfl) ?_
  intro p e s m args below meth c A C0 H hS hD hP ls hl
  obtain ⟨hx, hb, hml, hown, hts, hr, hlk, hN, hK, hF, hA⟩ := id C0
  have hl : lv_has ls 2 [(0, .ref q_this)] := hl
  unfold f_X0_remember at hres
  refine lv_aload_n hx hb dX0_remember_0 rfl (lv_at hl 0 rfl) ?_
  refine va_get (D := g.1) (ci := 0) (v := .int v_known) (C := RX0) (T := TX0) (N := 7) hx hb hts in_X0_remember_X0 hown hK hP 0 rfl rfl 4 (by decide) (hts (.fieldLink RX0 28 "LightKeepers$Moment" "known" "I") (List.mem_of_getElem? (i := 1) rfl)) (fun _ h9 => h9) rfl dX0_remember_1 ?_
  refine lv_bipush (v := 10) hx hb dX0_remember_4 (by decide) ?_
  refine lv_icmp_lt (tgt := 30) hx hb dX0_remember_6 (by decide) (fun c1 => ?_) (fun c1 => ?_)
  · have hres := it_t hres c1
    refine lv_aload_n hx hb dX0_remember_30 rfl (lv_at hl 0 rfl) ?_
    refine va_get (D := g.1) (ci := 0) (v := .int v_known) (C := RX0) (T := TX0) (N := 7) hx hb hts in_X0_remember_X0 hown hK hP 0 rfl rfl 4 (by decide) (hts (.fieldLink RX0 28 "LightKeepers$Moment" "known" "I") (List.mem_of_getElem? (i := 1) rfl)) (fun _ h9 => h9) rfl dX0_remember_31 ?_
    refine lv_iconst (v := 4) hx hb dX0_remember_34 (by decide) ?_
    refine lv_imul hx hb dX0_remember_35 ?_
    refine lv_istore_n (lv' := [(1, .int (v_known * 4)), (0, .ref q_this)]) hx hb dX0_remember_36 rfl hl (by decide) rfl (fun ls hl => ?_)
    refine lv_aload_n hx hb dX0_remember_37 rfl (lv_at hl 1 rfl) ?_
    refine va_get (D := g.1) (ci := 0) (v := .ref q_past) (C := RX0) (T := TX0) (N := 7) hx hb hts in_X0_remember_X0 hown hK hP 0 rfl rfl 5 (by decide) (hts (.fieldLink RX0 11 "LightKeepers$Moment" "past" "[I") (List.mem_of_getElem? (i := 2) rfl)) (fun _ h9 => h9) rfl dX0_remember_38 ?_
    refine lv_iload_n hx hb dX0_remember_41 rfl (lv_at hl 0 rfl) ?_
    refine lv_aload_n hx hb dX0_remember_42 rfl (lv_at hl 1 rfl) ?_
    refine va_get (D := g.1) (ci := 0) (v := .int v_way) (C := RX0) (T := TX0) (N := 7) hx hb hts in_X0_remember_X0 hown hK hP 0 rfl rfl 0 (by decide) (hts (.fieldLink RX0 15 "LightKeepers$Moment" "way" "I") (List.mem_of_getElem? (i := 7) rfl)) (fun _ h9 => h9) rfl dX0_remember_43 ?_
    obtain ⟨u2, hu2, hres⟩ := bd hres
    refine k_v C0 (run_SN (As := [.ref q_past, .int (v_known * 4), .int v_way]) (rest := []) C0 (c_X6_put l g (q_a0 := q_past) (n_a0 := 40) (f_a0 := f_past) (x1 := (v_known * 4)) (x2 := v_way) (u0 := u2) hu2 _) 3 gX0_remember_X6_put_n41 rfl rfl rfl (List.mem_of_getElem? (i := 4) rfl) (List.mem_of_getElem? (i := 11) rfl) (List.mem_of_getElem? (i := 12) rfl) hd_X6_put ⟨Nat.le_of_ble_eq_true rfl, Nat.le_of_ble_eq_true rfl⟩ hP hD hS [1] rfl rfl rfl hl.1 rfl (Nat.le_of_ble_eq_true rfl) ⟨Nat.zero_le _, Nat.zero_le _⟩ dX0_remember_46) hP hD hS [1] [0] rfl rfl rfl (by decide) (fun H locs hP hD hS => ?_)
    have hP : va_P g.1 vwCl [(q_this, .inr (0, [.int v_way, .int v_moons, .int v_burnt, .int v_out, .int v_known, .ref q_past, .int v_isKept])), (q_past, .inl (g.2.1, 40, .inl u2))] H := hP
    have hD : va_D A [(q_this, .inr (0, [.int v_way, .int v_moons, .int v_burnt, .int v_out, .int v_known, .ref q_past, .int v_isKept])), (q_past, .inl (g.2.1, 40, .inl u2))] := hD
    refine lv_aload_n hx hb dX0_remember_49 rfl (lv_at hl 1 rfl) ?_
    refine va_get (D := g.1) (ci := 0) (v := .ref q_past) (C := RX0) (T := TX0) (N := 7) hx hb hts in_X0_remember_X0 hown hK hP 0 rfl rfl 5 (by decide) (hts (.fieldLink RX0 11 "LightKeepers$Moment" "past" "[I") (List.mem_of_getElem? (i := 2) rfl)) (fun _ h9 => h9) rfl dX0_remember_50 ?_
    refine lv_iload_n hx hb dX0_remember_53 rfl (lv_at hl 0 rfl) ?_
    refine lv_iconst (v := 1) hx hb dX0_remember_54 (by decide) ?_
    refine lv_iadd hx hb dX0_remember_55 ?_
    refine lv_aload_n hx hb dX0_remember_56 rfl (lv_at hl 1 rfl) ?_
    refine va_get (D := g.1) (ci := 0) (v := .int v_moons) (C := RX0) (T := TX0) (N := 7) hx hb hts in_X0_remember_X0 hown hK hP 0 rfl rfl 1 (by decide) (hts (.fieldLink RX0 19 "LightKeepers$Moment" "moons" "I") (List.mem_of_getElem? (i := 8) rfl)) (fun _ h9 => h9) rfl dX0_remember_57 ?_
    obtain ⟨u3, hu3, hres⟩ := bd hres
    refine k_v C0 (run_SN (As := [.ref q_past, .int ((v_known * 4) + 1), .int v_moons]) (rest := []) C0 (c_X6_put l g (q_a0 := q_past) (n_a0 := 40) (f_a0 := u2) (x1 := ((v_known * 4) + 1)) (x2 := v_moons) (u0 := u3) hu3 _) 3 gX0_remember_X6_put_n41 rfl rfl rfl (List.mem_of_getElem? (i := 4) rfl) (List.mem_of_getElem? (i := 11) rfl) (List.mem_of_getElem? (i := 12) rfl) hd_X6_put ⟨Nat.le_of_ble_eq_true rfl, Nat.le_of_ble_eq_true rfl⟩ hP hD hS [1] rfl rfl rfl hl.1 rfl (Nat.le_of_ble_eq_true rfl) ⟨Nat.zero_le _, Nat.zero_le _⟩ dX0_remember_60) hP hD hS [1] [0] rfl rfl rfl (by decide) (fun H locs hP hD hS => ?_)
    have hP : va_P g.1 vwCl [(q_this, .inr (0, [.int v_way, .int v_moons, .int v_burnt, .int v_out, .int v_known, .ref q_past, .int v_isKept])), (q_past, .inl (g.2.1, 40, .inl u3))] H := hP
    have hD : va_D A [(q_this, .inr (0, [.int v_way, .int v_moons, .int v_burnt, .int v_out, .int v_known, .ref q_past, .int v_isKept])), (q_past, .inl (g.2.1, 40, .inl u3))] := hD
    refine lv_aload_n hx hb dX0_remember_63 rfl (lv_at hl 1 rfl) ?_
    refine va_get (D := g.1) (ci := 0) (v := .ref q_past) (C := RX0) (T := TX0) (N := 7) hx hb hts in_X0_remember_X0 hown hK hP 0 rfl rfl 5 (by decide) (hts (.fieldLink RX0 11 "LightKeepers$Moment" "past" "[I") (List.mem_of_getElem? (i := 2) rfl)) (fun _ h9 => h9) rfl dX0_remember_64 ?_
    refine lv_iload_n hx hb dX0_remember_67 rfl (lv_at hl 0 rfl) ?_
    refine lv_iconst (v := 2) hx hb dX0_remember_68 (by decide) ?_
    refine lv_iadd hx hb dX0_remember_69 ?_
    refine lv_aload_n hx hb dX0_remember_70 rfl (lv_at hl 1 rfl) ?_
    refine va_get (D := g.1) (ci := 0) (v := .int v_burnt) (C := RX0) (T := TX0) (N := 7) hx hb hts in_X0_remember_X0 hown hK hP 0 rfl rfl 2 (by decide) (hts (.fieldLink RX0 22 "LightKeepers$Moment" "burnt" "I") (List.mem_of_getElem? (i := 9) rfl)) (fun _ h9 => h9) rfl dX0_remember_71 ?_
    obtain ⟨u4, hu4, hres⟩ := bd hres
    refine k_v C0 (run_SN (As := [.ref q_past, .int ((v_known * 4) + 2), .int v_burnt]) (rest := []) C0 (c_X6_put l g (q_a0 := q_past) (n_a0 := 40) (f_a0 := u3) (x1 := ((v_known * 4) + 2)) (x2 := v_burnt) (u0 := u4) hu4 _) 3 gX0_remember_X6_put_n41 rfl rfl rfl (List.mem_of_getElem? (i := 4) rfl) (List.mem_of_getElem? (i := 11) rfl) (List.mem_of_getElem? (i := 12) rfl) hd_X6_put ⟨Nat.le_of_ble_eq_true rfl, Nat.le_of_ble_eq_true rfl⟩ hP hD hS [1] rfl rfl rfl hl.1 rfl (Nat.le_of_ble_eq_true rfl) ⟨Nat.zero_le _, Nat.zero_le _⟩ dX0_remember_74) hP hD hS [1] [0] rfl rfl rfl (by decide) (fun H locs hP hD hS => ?_)
    have hP : va_P g.1 vwCl [(q_this, .inr (0, [.int v_way, .int v_moons, .int v_burnt, .int v_out, .int v_known, .ref q_past, .int v_isKept])), (q_past, .inl (g.2.1, 40, .inl u4))] H := hP
    have hD : va_D A [(q_this, .inr (0, [.int v_way, .int v_moons, .int v_burnt, .int v_out, .int v_known, .ref q_past, .int v_isKept])), (q_past, .inl (g.2.1, 40, .inl u4))] := hD
    refine lv_aload_n hx hb dX0_remember_77 rfl (lv_at hl 1 rfl) ?_
    refine va_get (D := g.1) (ci := 0) (v := .ref q_past) (C := RX0) (T := TX0) (N := 7) hx hb hts in_X0_remember_X0 hown hK hP 0 rfl rfl 5 (by decide) (hts (.fieldLink RX0 11 "LightKeepers$Moment" "past" "[I") (List.mem_of_getElem? (i := 2) rfl)) (fun _ h9 => h9) rfl dX0_remember_78 ?_
    refine lv_iload_n hx hb dX0_remember_81 rfl (lv_at hl 0 rfl) ?_
    refine lv_iconst (v := 3) hx hb dX0_remember_82 (by decide) ?_
    refine lv_iadd hx hb dX0_remember_83 ?_
    refine lv_aload_n hx hb dX0_remember_84 rfl (lv_at hl 1 rfl) ?_
    refine va_get (D := g.1) (ci := 0) (v := .int v_out) (C := RX0) (T := TX0) (N := 7) hx hb hts in_X0_remember_X0 hown hK hP 0 rfl rfl 3 (by decide) (hts (.fieldLink RX0 25 "LightKeepers$Moment" "out" "I") (List.mem_of_getElem? (i := 10) rfl)) (fun _ h9 => h9) rfl dX0_remember_85 ?_
    obtain ⟨u5, hu5, hres⟩ := bd hres
    refine k_v C0 (run_SN (As := [.ref q_past, .int ((v_known * 4) + 3), .int v_out]) (rest := []) C0 (c_X6_put l g (q_a0 := q_past) (n_a0 := 40) (f_a0 := u4) (x1 := ((v_known * 4) + 3)) (x2 := v_out) (u0 := u5) hu5 _) 3 gX0_remember_X6_put_n41 rfl rfl rfl (List.mem_of_getElem? (i := 4) rfl) (List.mem_of_getElem? (i := 11) rfl) (List.mem_of_getElem? (i := 12) rfl) hd_X6_put ⟨Nat.le_of_ble_eq_true rfl, Nat.le_of_ble_eq_true rfl⟩ hP hD hS [1] rfl rfl rfl hl.1 rfl (Nat.le_of_ble_eq_true rfl) ⟨Nat.zero_le _, Nat.zero_le _⟩ dX0_remember_88) hP hD hS [1] [0] rfl rfl rfl (by decide) (fun H locs hP hD hS => ?_)
    have hP : va_P g.1 vwCl [(q_this, .inr (0, [.int v_way, .int v_moons, .int v_burnt, .int v_out, .int v_known, .ref q_past, .int v_isKept])), (q_past, .inl (g.2.1, 40, .inl u5))] H := hP
    have hD : va_D A [(q_this, .inr (0, [.int v_way, .int v_moons, .int v_burnt, .int v_out, .int v_known, .ref q_past, .int v_isKept])), (q_past, .inl (g.2.1, 40, .inl u5))] := hD
    refine lv_aload_n hx hb dX0_remember_91 rfl (lv_at hl 1 rfl) ?_
    refine lv_dup hx hb dX0_remember_92 rfl ?_
    refine va_get (D := g.1) (ci := 0) (v := .int v_known) (C := RX0) (T := TX0) (N := 7) hx hb hts in_X0_remember_X0 hown hK hP 0 rfl rfl 4 (by decide) (hts (.fieldLink RX0 28 "LightKeepers$Moment" "known" "I") (List.mem_of_getElem? (i := 1) rfl)) (fun _ h9 => h9) rfl dX0_remember_93 ?_
    refine lv_iconst (v := 1) hx hb dX0_remember_96 (by decide) ?_
    refine lv_iadd hx hb dX0_remember_97 ?_
    refine va_put (D := g.1) (ci := 0) (v := .int (v_known + 1)) (ty := .int) (C := RX0) (T := TX0) (N := 7) hx hb hts in_X0_remember_X0 tyX0 tyX0_ok nmX0 hown hK hP hD hS 0 rfl rfl 4 (by decide) (hts (.fieldLink RX0 28 "LightKeepers$Moment" "known" "I") (List.mem_of_getElem? (i := 1) rfl)) (fun _ h9 => h9) rfl (tyX0_ok 4 (by decide)) rfl rfl (Nat.le_of_ble_eq_true rfl) dX0_remember_98 (fun H locs hP hD hS => ?_)
    have hP : va_P g.1 vwCl [(q_this, .inr (0, [.int v_way, .int v_moons, .int v_burnt, .int v_out, .int (v_known + 1), .ref q_past, .int v_isKept])), (q_past, .inl (g.2.1, 40, .inl u5))] H := hP
    have hD : va_D A [(q_this, .inr (0, [.int v_way, .int v_moons, .int v_burnt, .int v_out, .int (v_known + 1), .ref q_past, .int v_isKept])), (q_past, .inl (g.2.1, 40, .inl u5))] := hD
    cases hres
    exact ret_v C0 hP hD hS dX0_remember_101
  · have hres := it_f hres c1
    refine lv_aload_n hx hb dX0_remember_9 rfl (lv_at hl 0 rfl) ?_
    refine va_get (D := g.1) (ci := 0) (v := .ref q_past) (C := RX0) (T := TX0) (N := 7) hx hb hts in_X0_remember_X0 hown hK hP 0 rfl rfl 5 (by decide) (hts (.fieldLink RX0 11 "LightKeepers$Moment" "past" "[I") (List.mem_of_getElem? (i := 2) rfl)) (fun _ h9 => h9) rfl dX0_remember_10 ?_
    refine lv_iconst (v := 4) hx hb dX0_remember_13 (by decide) ?_
    refine lv_aload_n hx hb dX0_remember_14 rfl (lv_at hl 0 rfl) ?_
    refine va_get (D := g.1) (ci := 0) (v := .ref q_past) (C := RX0) (T := TX0) (N := 7) hx hb hts in_X0_remember_X0 hown hK hP 0 rfl rfl 5 (by decide) (hts (.fieldLink RX0 11 "LightKeepers$Moment" "past" "[I") (List.mem_of_getElem? (i := 2) rfl)) (fun _ h9 => h9) rfl dX0_remember_15 ?_
    refine lv_iconst (v := 0) hx hb dX0_remember_18 (by decide) ?_
    refine lv_bipush (v := 36) hx hb dX0_remember_19 (by decide) ?_
    refine va_copyi hx hb (hml.trans hl.1.symm) hown (hts (.methodLink RX0 35 arraycopyName) (List.mem_of_getElem? (i := 3) rfl)) (hts (.native arraycopyName) (List.mem_of_getElem? (i := 4) rfl)) (hts (.static arraycopyName) (List.mem_of_getElem? (i := 5) rfl)) (hts (.initialized "java/lang/System") (List.mem_of_getElem? (i := 6) rfl)) hK hP hD hS 1 1 0 0 rfl rfl rfl rfl rfl (by decide) (by decide) (by decide) (by decide) (by decide) (fun _ _ => rfl) (Nat.le_of_ble_eq_true rfl) (Nat.le_of_ble_eq_true rfl) dX0_remember_21 (fun H locs hP hD hS => ?_)
    have hP : va_P g.1 vwCl [(q_this, .inr (0, [.int v_way, .int v_moons, .int v_burnt, .int v_out, .int v_known, .ref q_past, .int v_isKept])), (q_past, .inl (g.2.1, 40, .inl (va_cpy f_past f_past (Int32.toNatClampNeg 4) (Int32.toNatClampNeg 0) (Int32.toNatClampNeg 36))))] H := hP
    have hD : va_D A [(q_this, .inr (0, [.int v_way, .int v_moons, .int v_burnt, .int v_out, .int v_known, .ref q_past, .int v_isKept])), (q_past, .inl (g.2.1, 40, .inl (va_cpy f_past f_past (Int32.toNatClampNeg 4) (Int32.toNatClampNeg 0) (Int32.toNatClampNeg 36))))] := hD
    refine lv_aload_n hx hb dX0_remember_24 rfl (lv_at hl 0 rfl) ?_
    refine lv_bipush (v := 9) hx hb dX0_remember_25 (by decide) ?_
    refine va_put (D := g.1) (ci := 0) (v := .int 9) (ty := .int) (C := RX0) (T := TX0) (N := 7) hx hb hts in_X0_remember_X0 tyX0 tyX0_ok nmX0 hown hK hP hD hS 0 rfl rfl 4 (by decide) (hts (.fieldLink RX0 28 "LightKeepers$Moment" "known" "I") (List.mem_of_getElem? (i := 1) rfl)) (fun _ h9 => h9) rfl (tyX0_ok 4 (by decide)) rfl rfl (Nat.le_of_ble_eq_true rfl) dX0_remember_27 (fun H locs hP hD hS => ?_)
    have hP : va_P g.1 vwCl [(q_this, .inr (0, [.int v_way, .int v_moons, .int v_burnt, .int v_out, .int 9, .ref q_past, .int v_isKept])), (q_past, .inl (g.2.1, 40, .inl (va_cpy f_past f_past (Int32.toNatClampNeg 4) (Int32.toNatClampNeg 0) (Int32.toNatClampNeg 36))))] H := hP
    have hD : va_D A [(q_this, .inr (0, [.int v_way, .int v_moons, .int v_burnt, .int v_out, .int 9, .ref q_past, .int v_isKept])), (q_past, .inl (g.2.1, 40, .inl (va_cpy f_past f_past (Int32.toNatClampNeg 4) (Int32.toNatClampNeg 0) (Int32.toNatClampNeg 36))))] := hD
    refine lv_aload_n hx hb dX0_remember_30 rfl (lv_at hl 0 rfl) ?_
    refine va_get (D := g.1) (ci := 0) (v := .int 9) (C := RX0) (T := TX0) (N := 7) hx hb hts in_X0_remember_X0 hown hK hP 0 rfl rfl 4 (by decide) (hts (.fieldLink RX0 28 "LightKeepers$Moment" "known" "I") (List.mem_of_getElem? (i := 1) rfl)) (fun _ h9 => h9) rfl dX0_remember_31 ?_
    refine lv_iconst (v := 4) hx hb dX0_remember_34 (by decide) ?_
    refine lv_imul hx hb dX0_remember_35 ?_
    refine lv_istore_n (lv' := [(1, .int (9 * 4)), (0, .ref q_this)]) hx hb dX0_remember_36 rfl hl (by decide) rfl (fun ls hl => ?_)
    refine lv_aload_n hx hb dX0_remember_37 rfl (lv_at hl 1 rfl) ?_
    refine va_get (D := g.1) (ci := 0) (v := .ref q_past) (C := RX0) (T := TX0) (N := 7) hx hb hts in_X0_remember_X0 hown hK hP 0 rfl rfl 5 (by decide) (hts (.fieldLink RX0 11 "LightKeepers$Moment" "past" "[I") (List.mem_of_getElem? (i := 2) rfl)) (fun _ h9 => h9) rfl dX0_remember_38 ?_
    refine lv_iload_n hx hb dX0_remember_41 rfl (lv_at hl 0 rfl) ?_
    refine lv_aload_n hx hb dX0_remember_42 rfl (lv_at hl 1 rfl) ?_
    refine va_get (D := g.1) (ci := 0) (v := .int v_way) (C := RX0) (T := TX0) (N := 7) hx hb hts in_X0_remember_X0 hown hK hP 0 rfl rfl 0 (by decide) (hts (.fieldLink RX0 15 "LightKeepers$Moment" "way" "I") (List.mem_of_getElem? (i := 7) rfl)) (fun _ h9 => h9) rfl dX0_remember_43 ?_
    obtain ⟨u6, hu6, hres⟩ := bd hres
    refine k_v C0 (run_SN (As := [.ref q_past, .int (9 * 4), .int v_way]) (rest := []) C0 (c_X6_put l g (q_a0 := q_past) (n_a0 := 40) (f_a0 := (va_cpy f_past f_past (Int32.toNatClampNeg 4) (Int32.toNatClampNeg 0) (Int32.toNatClampNeg 36))) (x1 := (9 * 4)) (x2 := v_way) (u0 := u6) hu6 _) 3 gX0_remember_X6_put_n41 rfl rfl rfl (List.mem_of_getElem? (i := 4) rfl) (List.mem_of_getElem? (i := 11) rfl) (List.mem_of_getElem? (i := 12) rfl) hd_X6_put ⟨Nat.le_of_ble_eq_true rfl, Nat.le_of_ble_eq_true rfl⟩ hP hD hS [1] rfl rfl rfl hl.1 rfl (Nat.le_of_ble_eq_true rfl) ⟨Nat.zero_le _, Nat.zero_le _⟩ dX0_remember_46) hP hD hS [1] [0] rfl rfl rfl (by decide) (fun H locs hP hD hS => ?_)
    have hP : va_P g.1 vwCl [(q_this, .inr (0, [.int v_way, .int v_moons, .int v_burnt, .int v_out, .int 9, .ref q_past, .int v_isKept])), (q_past, .inl (g.2.1, 40, .inl u6))] H := hP
    have hD : va_D A [(q_this, .inr (0, [.int v_way, .int v_moons, .int v_burnt, .int v_out, .int 9, .ref q_past, .int v_isKept])), (q_past, .inl (g.2.1, 40, .inl u6))] := hD
    refine lv_aload_n hx hb dX0_remember_49 rfl (lv_at hl 1 rfl) ?_
    refine va_get (D := g.1) (ci := 0) (v := .ref q_past) (C := RX0) (T := TX0) (N := 7) hx hb hts in_X0_remember_X0 hown hK hP 0 rfl rfl 5 (by decide) (hts (.fieldLink RX0 11 "LightKeepers$Moment" "past" "[I") (List.mem_of_getElem? (i := 2) rfl)) (fun _ h9 => h9) rfl dX0_remember_50 ?_
    refine lv_iload_n hx hb dX0_remember_53 rfl (lv_at hl 0 rfl) ?_
    refine lv_iconst (v := 1) hx hb dX0_remember_54 (by decide) ?_
    refine lv_iadd hx hb dX0_remember_55 ?_
    refine lv_aload_n hx hb dX0_remember_56 rfl (lv_at hl 1 rfl) ?_
    refine va_get (D := g.1) (ci := 0) (v := .int v_moons) (C := RX0) (T := TX0) (N := 7) hx hb hts in_X0_remember_X0 hown hK hP 0 rfl rfl 1 (by decide) (hts (.fieldLink RX0 19 "LightKeepers$Moment" "moons" "I") (List.mem_of_getElem? (i := 8) rfl)) (fun _ h9 => h9) rfl dX0_remember_57 ?_
    obtain ⟨u7, hu7, hres⟩ := bd hres
    refine k_v C0 (run_SN (As := [.ref q_past, .int ((9 * 4) + 1), .int v_moons]) (rest := []) C0 (c_X6_put l g (q_a0 := q_past) (n_a0 := 40) (f_a0 := u6) (x1 := ((9 * 4) + 1)) (x2 := v_moons) (u0 := u7) hu7 _) 3 gX0_remember_X6_put_n41 rfl rfl rfl (List.mem_of_getElem? (i := 4) rfl) (List.mem_of_getElem? (i := 11) rfl) (List.mem_of_getElem? (i := 12) rfl) hd_X6_put ⟨Nat.le_of_ble_eq_true rfl, Nat.le_of_ble_eq_true rfl⟩ hP hD hS [1] rfl rfl rfl hl.1 rfl (Nat.le_of_ble_eq_true rfl) ⟨Nat.zero_le _, Nat.zero_le _⟩ dX0_remember_60) hP hD hS [1] [0] rfl rfl rfl (by decide) (fun H locs hP hD hS => ?_)
    have hP : va_P g.1 vwCl [(q_this, .inr (0, [.int v_way, .int v_moons, .int v_burnt, .int v_out, .int 9, .ref q_past, .int v_isKept])), (q_past, .inl (g.2.1, 40, .inl u7))] H := hP
    have hD : va_D A [(q_this, .inr (0, [.int v_way, .int v_moons, .int v_burnt, .int v_out, .int 9, .ref q_past, .int v_isKept])), (q_past, .inl (g.2.1, 40, .inl u7))] := hD
    refine lv_aload_n hx hb dX0_remember_63 rfl (lv_at hl 1 rfl) ?_
    refine va_get (D := g.1) (ci := 0) (v := .ref q_past) (C := RX0) (T := TX0) (N := 7) hx hb hts in_X0_remember_X0 hown hK hP 0 rfl rfl 5 (by decide) (hts (.fieldLink RX0 11 "LightKeepers$Moment" "past" "[I") (List.mem_of_getElem? (i := 2) rfl)) (fun _ h9 => h9) rfl dX0_remember_64 ?_
    refine lv_iload_n hx hb dX0_remember_67 rfl (lv_at hl 0 rfl) ?_
    refine lv_iconst (v := 2) hx hb dX0_remember_68 (by decide) ?_
    refine lv_iadd hx hb dX0_remember_69 ?_
    refine lv_aload_n hx hb dX0_remember_70 rfl (lv_at hl 1 rfl) ?_
    refine va_get (D := g.1) (ci := 0) (v := .int v_burnt) (C := RX0) (T := TX0) (N := 7) hx hb hts in_X0_remember_X0 hown hK hP 0 rfl rfl 2 (by decide) (hts (.fieldLink RX0 22 "LightKeepers$Moment" "burnt" "I") (List.mem_of_getElem? (i := 9) rfl)) (fun _ h9 => h9) rfl dX0_remember_71 ?_
    obtain ⟨u8, hu8, hres⟩ := bd hres
    refine k_v C0 (run_SN (As := [.ref q_past, .int ((9 * 4) + 2), .int v_burnt]) (rest := []) C0 (c_X6_put l g (q_a0 := q_past) (n_a0 := 40) (f_a0 := u7) (x1 := ((9 * 4) + 2)) (x2 := v_burnt) (u0 := u8) hu8 _) 3 gX0_remember_X6_put_n41 rfl rfl rfl (List.mem_of_getElem? (i := 4) rfl) (List.mem_of_getElem? (i := 11) rfl) (List.mem_of_getElem? (i := 12) rfl) hd_X6_put ⟨Nat.le_of_ble_eq_true rfl, Nat.le_of_ble_eq_true rfl⟩ hP hD hS [1] rfl rfl rfl hl.1 rfl (Nat.le_of_ble_eq_true rfl) ⟨Nat.zero_le _, Nat.zero_le _⟩ dX0_remember_74) hP hD hS [1] [0] rfl rfl rfl (by decide) (fun H locs hP hD hS => ?_)
    have hP : va_P g.1 vwCl [(q_this, .inr (0, [.int v_way, .int v_moons, .int v_burnt, .int v_out, .int 9, .ref q_past, .int v_isKept])), (q_past, .inl (g.2.1, 40, .inl u8))] H := hP
    have hD : va_D A [(q_this, .inr (0, [.int v_way, .int v_moons, .int v_burnt, .int v_out, .int 9, .ref q_past, .int v_isKept])), (q_past, .inl (g.2.1, 40, .inl u8))] := hD
    refine lv_aload_n hx hb dX0_remember_77 rfl (lv_at hl 1 rfl) ?_
    refine va_get (D := g.1) (ci := 0) (v := .ref q_past) (C := RX0) (T := TX0) (N := 7) hx hb hts in_X0_remember_X0 hown hK hP 0 rfl rfl 5 (by decide) (hts (.fieldLink RX0 11 "LightKeepers$Moment" "past" "[I") (List.mem_of_getElem? (i := 2) rfl)) (fun _ h9 => h9) rfl dX0_remember_78 ?_
    refine lv_iload_n hx hb dX0_remember_81 rfl (lv_at hl 0 rfl) ?_
    refine lv_iconst (v := 3) hx hb dX0_remember_82 (by decide) ?_
    refine lv_iadd hx hb dX0_remember_83 ?_
    refine lv_aload_n hx hb dX0_remember_84 rfl (lv_at hl 1 rfl) ?_
    refine va_get (D := g.1) (ci := 0) (v := .int v_out) (C := RX0) (T := TX0) (N := 7) hx hb hts in_X0_remember_X0 hown hK hP 0 rfl rfl 3 (by decide) (hts (.fieldLink RX0 25 "LightKeepers$Moment" "out" "I") (List.mem_of_getElem? (i := 10) rfl)) (fun _ h9 => h9) rfl dX0_remember_85 ?_
    obtain ⟨u9, hu9, hres⟩ := bd hres
    refine k_v C0 (run_SN (As := [.ref q_past, .int ((9 * 4) + 3), .int v_out]) (rest := []) C0 (c_X6_put l g (q_a0 := q_past) (n_a0 := 40) (f_a0 := u8) (x1 := ((9 * 4) + 3)) (x2 := v_out) (u0 := u9) hu9 _) 3 gX0_remember_X6_put_n41 rfl rfl rfl (List.mem_of_getElem? (i := 4) rfl) (List.mem_of_getElem? (i := 11) rfl) (List.mem_of_getElem? (i := 12) rfl) hd_X6_put ⟨Nat.le_of_ble_eq_true rfl, Nat.le_of_ble_eq_true rfl⟩ hP hD hS [1] rfl rfl rfl hl.1 rfl (Nat.le_of_ble_eq_true rfl) ⟨Nat.zero_le _, Nat.zero_le _⟩ dX0_remember_88) hP hD hS [1] [0] rfl rfl rfl (by decide) (fun H locs hP hD hS => ?_)
    have hP : va_P g.1 vwCl [(q_this, .inr (0, [.int v_way, .int v_moons, .int v_burnt, .int v_out, .int 9, .ref q_past, .int v_isKept])), (q_past, .inl (g.2.1, 40, .inl u9))] H := hP
    have hD : va_D A [(q_this, .inr (0, [.int v_way, .int v_moons, .int v_burnt, .int v_out, .int 9, .ref q_past, .int v_isKept])), (q_past, .inl (g.2.1, 40, .inl u9))] := hD
    refine lv_aload_n hx hb dX0_remember_91 rfl (lv_at hl 1 rfl) ?_
    refine lv_dup hx hb dX0_remember_92 rfl ?_
    refine va_get (D := g.1) (ci := 0) (v := .int 9) (C := RX0) (T := TX0) (N := 7) hx hb hts in_X0_remember_X0 hown hK hP 0 rfl rfl 4 (by decide) (hts (.fieldLink RX0 28 "LightKeepers$Moment" "known" "I") (List.mem_of_getElem? (i := 1) rfl)) (fun _ h9 => h9) rfl dX0_remember_93 ?_
    refine lv_iconst (v := 1) hx hb dX0_remember_96 (by decide) ?_
    refine lv_iadd hx hb dX0_remember_97 ?_
    refine va_put (D := g.1) (ci := 0) (v := .int (9 + 1)) (ty := .int) (C := RX0) (T := TX0) (N := 7) hx hb hts in_X0_remember_X0 tyX0 tyX0_ok nmX0 hown hK hP hD hS 0 rfl rfl 4 (by decide) (hts (.fieldLink RX0 28 "LightKeepers$Moment" "known" "I") (List.mem_of_getElem? (i := 1) rfl)) (fun _ h9 => h9) rfl (tyX0_ok 4 (by decide)) rfl rfl (Nat.le_of_ble_eq_true rfl) dX0_remember_98 (fun H locs hP hD hS => ?_)
    have hP : va_P g.1 vwCl [(q_this, .inr (0, [.int v_way, .int v_moons, .int v_burnt, .int v_out, .int (9 + 1), .ref q_past, .int v_isKept])), (q_past, .inl (g.2.1, 40, .inl u9))] H := hP
    have hD : va_D A [(q_this, .inr (0, [.int v_way, .int v_moons, .int v_burnt, .int v_out, .int (9 + 1), .ref q_past, .int v_isKept])), (q_past, .inl (g.2.1, 40, .inl u9))] := hD
    cases hres
    exact ret_v C0 hP hD hS dX0_remember_101
set_option maxHeartbeats 4000000 in
set_option maxRecDepth 100000 in
theorem c_X6_item (l : Launch) (g : gG) {q_a0 : Nat} {n_a0 : Nat} {f_a0 : Nat → Int32} {x1 : Int32} {u0 : Int32} (hres : f_X6_item n_a0 f_a0 x1 = some u0) : Ci l g yX6_item wsX6_item rm_X6_item [.ref q_a0, .int x1] [(q_a0, .inl (g.2.1, n_a0, .inl f_a0))] [(q_a0, .inl (g.2.1, n_a0, .inl f_a0))] u0 := by
  intro sz
  refine gBody (Qf := fun A => gQi g [(q_a0, .inl (g.2.1, n_a0, .inl f_a0))] u0 A) (cc := cX6_item) (maxL := 2) (ret := (some .int)) (own := RX6) (by decide +kernel) rfl rfl (Nat.le_of_ble_eq_true rfl) ?_
  intro p e s m args below meth c A C0 H hS hD hP ls hl
  obtain ⟨hx, hb, hml, hown, hts, hr, hlk, hN, hK, hF, hA⟩ := id C0
  have hl : lv_has ls 2 [(0, .ref q_a0), (1, .int x1)] := hl
  unfold f_X6_item at hres
  refine lv_iload_n hx hb dX6_item_0 rfl (lv_at hl 1 rfl) ?_
  refine lv_if_lt (tgt := 16) hx hb dX6_item_1 (by decide) (fun c1 => ?_) (fun c1 => ?_)
  · have hres := it_t hres c1
    refine lv_bipush (v := (-9)) hx hb dX6_item_16 (by decide) ?_
    cases hres
    exact ret_i C0 hP hD hS dX6_item_18
  · have hres := it_f hres c1
    refine lv_iload_n hx hb dX6_item_4 rfl (lv_at hl 1 rfl) ?_
    refine lv_aload_n hx hb dX6_item_5 rfl (lv_at hl 0 rfl) ?_
    refine va_alen (v := (Int32.ofNat n_a0)) hx hb hK hP 0 0 rfl rfl rfl dX6_item_6 ?_
    refine lv_icmp_ge (tgt := 16) hx hb dX6_item_7 (by decide) (fun c2 => ?_) (fun c2 => ?_)
    · have hres := it_t hres c2
      refine lv_bipush (v := (-9)) hx hb dX6_item_16 (by decide) ?_
      cases hres
      exact ret_i C0 hP hD hS dX6_item_18
    · have hres := it_f hres c2
      refine lv_aload_n hx hb dX6_item_10 rfl (lv_at hl 0 rfl) ?_
      refine lv_iload_n hx hb dX6_item_11 rfl (lv_at hl 1 rfl) ?_
      have c3 := gd1 hres
      have hres := gd2 hres
      refine va_iald hx hb hK hP 0 0 rfl rfl (show vp_in _ _ from c3) dX6_item_12 ?_
      refine lv_goto (tgt := 18) hx hb dX6_item_13 (by decide) ?_
      cases hres
      exact ret_i C0 hP hD hS dX6_item_18
set_option maxHeartbeats 4000000 in
set_option maxRecDepth 100000 in
theorem c_X0_recall (l : Launch) (g : gG) {q_this q_past : Nat} {v_way : Int32} {v_moons : Int32} {v_burnt : Int32} {v_out : Int32} {v_known : Int32} {v_isKept : Int32} {f_past : Nat → Int32} {u0 : Int32 × Int32 × Int32 × Int32 × Int32 × Int32} (hres : f_X0_recall v_way v_moons v_burnt v_out v_known f_past = some u0) : Ci l g yX0_recall wsX0_recall rm_X0_recall [.ref q_this] [(q_this, .inr (0, [.int v_way, .int v_moons, .int v_burnt, .int v_out, .int v_known, .ref q_past, .int v_isKept])), (q_past, .inl (g.2.1, 40, .inl f_past))] [(q_this, .inr (0, [.int u0.2.1, .int u0.2.2.1, .int u0.2.2.2.1, .int u0.2.2.2.2.1, .int u0.2.2.2.2.2, .ref q_past, .int v_isKept])), (q_past, .inl (g.2.1, 40, .inl f_past))] u0.1 := by
  intro sz
  refine gBody (Qf := fun A => gQi g [(q_this, .inr (0, [.int u0.2.1, .int u0.2.2.1, .int u0.2.2.2.1, .int u0.2.2.2.2.1, .int u0.2.2.2.2.2, .ref q_past, .int v_isKept])), (q_past, .inl (g.2.1, 40, .inl f_past))] u0.1 A) (cc := cX0_recall) (maxL := 2) (ret := (some .boolean)) (own := RX0) (by decide +kernel) rfl rfl (Nat.le_of_ble_eq_true rfl) ?_
  intro p e s m args below meth c A C0 H hS hD hP ls hl
  obtain ⟨hx, hb, hml, hown, hts, hr, hlk, hN, hK, hF, hA⟩ := id C0
  have hl : lv_has ls 2 [(0, .ref q_this)] := hl
  unfold f_X0_recall at hres
  refine lv_aload_n hx hb dX0_recall_0 rfl (lv_at hl 0 rfl) ?_
  refine va_get (D := g.1) (ci := 0) (v := .int v_known) (C := RX0) (T := TX0) (N := 7) hx hb hts in_X0_recall_X0 hown hK hP 0 rfl rfl 4 (by decide) (hts (.fieldLink RX0 28 "LightKeepers$Moment" "known" "I") (List.mem_of_getElem? (i := 1) rfl)) (fun _ h9 => h9) rfl dX0_recall_1 ?_
  refine lv_if_gt (tgt := 9) hx hb dX0_recall_4 (by decide) (fun c1 => ?_) (fun c1 => ?_)
  · have hres := it_t hres c1
    refine lv_aload_n hx hb dX0_recall_9 rfl (lv_at hl 0 rfl) ?_
    refine lv_dup hx hb dX0_recall_10 rfl ?_
    refine va_get (D := g.1) (ci := 0) (v := .int v_known) (C := RX0) (T := TX0) (N := 7) hx hb hts in_X0_recall_X0 hown hK hP 0 rfl rfl 4 (by decide) (hts (.fieldLink RX0 28 "LightKeepers$Moment" "known" "I") (List.mem_of_getElem? (i := 1) rfl)) (fun _ h9 => h9) rfl dX0_recall_11 ?_
    refine lv_iconst (v := 1) hx hb dX0_recall_14 (by decide) ?_
    refine lv_isub hx hb dX0_recall_15 ?_
    refine va_put (D := g.1) (ci := 0) (v := .int (v_known - 1)) (ty := .int) (C := RX0) (T := TX0) (N := 7) hx hb hts in_X0_recall_X0 tyX0 tyX0_ok nmX0 hown hK hP hD hS 0 rfl rfl 4 (by decide) (hts (.fieldLink RX0 28 "LightKeepers$Moment" "known" "I") (List.mem_of_getElem? (i := 1) rfl)) (fun _ h9 => h9) rfl (tyX0_ok 4 (by decide)) rfl rfl (Nat.le_of_ble_eq_true rfl) dX0_recall_16 (fun H locs hP hD hS => ?_)
    have hP : va_P g.1 vwCl [(q_this, .inr (0, [.int v_way, .int v_moons, .int v_burnt, .int v_out, .int (v_known - 1), .ref q_past, .int v_isKept])), (q_past, .inl (g.2.1, 40, .inl f_past))] H := hP
    have hD : va_D A [(q_this, .inr (0, [.int v_way, .int v_moons, .int v_burnt, .int v_out, .int (v_known - 1), .ref q_past, .int v_isKept])), (q_past, .inl (g.2.1, 40, .inl f_past))] := hD
    refine lv_aload_n hx hb dX0_recall_19 rfl (lv_at hl 0 rfl) ?_
    refine va_get (D := g.1) (ci := 0) (v := .int (v_known - 1)) (C := RX0) (T := TX0) (N := 7) hx hb hts in_X0_recall_X0 hown hK hP 0 rfl rfl 4 (by decide) (hts (.fieldLink RX0 28 "LightKeepers$Moment" "known" "I") (List.mem_of_getElem? (i := 1) rfl)) (fun _ h9 => h9) rfl dX0_recall_20 ?_
    refine lv_iconst (v := 4) hx hb dX0_recall_23 (by decide) ?_
    refine lv_imul hx hb dX0_recall_24 ?_
    refine lv_istore_n (lv' := [(1, .int ((v_known - 1) * 4)), (0, .ref q_this)]) hx hb dX0_recall_25 rfl hl (by decide) rfl (fun ls hl => ?_)
    refine lv_aload_n hx hb dX0_recall_26 rfl (lv_at hl 1 rfl) ?_
    refine lv_aload_n hx hb dX0_recall_27 rfl (lv_at hl 1 rfl) ?_
    refine va_get (D := g.1) (ci := 0) (v := .ref q_past) (C := RX0) (T := TX0) (N := 7) hx hb hts in_X0_recall_X0 hown hK hP 0 rfl rfl 5 (by decide) (hts (.fieldLink RX0 11 "LightKeepers$Moment" "past" "[I") (List.mem_of_getElem? (i := 2) rfl)) (fun _ h9 => h9) rfl dX0_recall_28 ?_
    refine lv_iload_n hx hb dX0_recall_31 rfl (lv_at hl 0 rfl) ?_
    obtain ⟨u2, hu2, hres⟩ := bd hres
    refine k_i C0 (run_SN (As := [.ref q_past, .int ((v_known - 1) * 4)]) (rest := [.ref q_this]) C0 (c_X6_item l g (q_a0 := q_past) (n_a0 := 40) (f_a0 := f_past) (x1 := ((v_known - 1) * 4)) (u0 := u2) hu2 _) 2 gX0_recall_X6_item_n45 rfl rfl rfl (List.mem_of_getElem? (i := 5) rfl) (List.mem_of_getElem? (i := 7) rfl) (List.mem_of_getElem? (i := 8) rfl) hd_X6_item ⟨Nat.le_of_ble_eq_true rfl, Nat.le_of_ble_eq_true rfl⟩ hP hD hS [1] rfl rfl rfl hl.1 rfl (Nat.le_of_ble_eq_true rfl) ⟨Nat.zero_le _, Nat.zero_le _⟩ dX0_recall_32) hP hD hS [1] [0] rfl rfl rfl (by decide) (fun H locs hP hD hS => ?_)
    have hP : va_P g.1 vwCl [(q_this, .inr (0, [.int v_way, .int v_moons, .int v_burnt, .int v_out, .int (v_known - 1), .ref q_past, .int v_isKept])), (q_past, .inl (g.2.1, 40, .inl f_past))] H := hP
    have hD : va_D A [(q_this, .inr (0, [.int v_way, .int v_moons, .int v_burnt, .int v_out, .int (v_known - 1), .ref q_past, .int v_isKept])), (q_past, .inl (g.2.1, 40, .inl f_past))] := hD
    refine va_put (D := g.1) (ci := 0) (v := .int u2) (ty := .int) (C := RX0) (T := TX0) (N := 7) hx hb hts in_X0_recall_X0 tyX0 tyX0_ok nmX0 hown hK hP hD hS 0 rfl rfl 0 (by decide) (hts (.fieldLink RX0 15 "LightKeepers$Moment" "way" "I") (List.mem_of_getElem? (i := 3) rfl)) (fun _ h9 => h9) rfl (tyX0_ok 0 (by decide)) rfl rfl (Nat.le_of_ble_eq_true rfl) dX0_recall_35 (fun H locs hP hD hS => ?_)
    have hP : va_P g.1 vwCl [(q_this, .inr (0, [.int u2, .int v_moons, .int v_burnt, .int v_out, .int (v_known - 1), .ref q_past, .int v_isKept])), (q_past, .inl (g.2.1, 40, .inl f_past))] H := hP
    have hD : va_D A [(q_this, .inr (0, [.int u2, .int v_moons, .int v_burnt, .int v_out, .int (v_known - 1), .ref q_past, .int v_isKept])), (q_past, .inl (g.2.1, 40, .inl f_past))] := hD
    refine lv_aload_n hx hb dX0_recall_38 rfl (lv_at hl 1 rfl) ?_
    refine lv_aload_n hx hb dX0_recall_39 rfl (lv_at hl 1 rfl) ?_
    refine va_get (D := g.1) (ci := 0) (v := .ref q_past) (C := RX0) (T := TX0) (N := 7) hx hb hts in_X0_recall_X0 hown hK hP 0 rfl rfl 5 (by decide) (hts (.fieldLink RX0 11 "LightKeepers$Moment" "past" "[I") (List.mem_of_getElem? (i := 2) rfl)) (fun _ h9 => h9) rfl dX0_recall_40 ?_
    refine lv_iload_n hx hb dX0_recall_43 rfl (lv_at hl 0 rfl) ?_
    refine lv_iconst (v := 1) hx hb dX0_recall_44 (by decide) ?_
    refine lv_iadd hx hb dX0_recall_45 ?_
    obtain ⟨u3, hu3, hres⟩ := bd hres
    refine k_i C0 (run_SN (As := [.ref q_past, .int (((v_known - 1) * 4) + 1)]) (rest := [.ref q_this]) C0 (c_X6_item l g (q_a0 := q_past) (n_a0 := 40) (f_a0 := f_past) (x1 := (((v_known - 1) * 4) + 1)) (u0 := u3) hu3 _) 2 gX0_recall_X6_item_n45 rfl rfl rfl (List.mem_of_getElem? (i := 5) rfl) (List.mem_of_getElem? (i := 7) rfl) (List.mem_of_getElem? (i := 8) rfl) hd_X6_item ⟨Nat.le_of_ble_eq_true rfl, Nat.le_of_ble_eq_true rfl⟩ hP hD hS [1] rfl rfl rfl hl.1 rfl (Nat.le_of_ble_eq_true rfl) ⟨Nat.zero_le _, Nat.zero_le _⟩ dX0_recall_46) hP hD hS [1] [0] rfl rfl rfl (by decide) (fun H locs hP hD hS => ?_)
    have hP : va_P g.1 vwCl [(q_this, .inr (0, [.int u2, .int v_moons, .int v_burnt, .int v_out, .int (v_known - 1), .ref q_past, .int v_isKept])), (q_past, .inl (g.2.1, 40, .inl f_past))] H := hP
    have hD : va_D A [(q_this, .inr (0, [.int u2, .int v_moons, .int v_burnt, .int v_out, .int (v_known - 1), .ref q_past, .int v_isKept])), (q_past, .inl (g.2.1, 40, .inl f_past))] := hD
    refine va_put (D := g.1) (ci := 0) (v := .int u3) (ty := .int) (C := RX0) (T := TX0) (N := 7) hx hb hts in_X0_recall_X0 tyX0 tyX0_ok nmX0 hown hK hP hD hS 0 rfl rfl 1 (by decide) (hts (.fieldLink RX0 19 "LightKeepers$Moment" "moons" "I") (List.mem_of_getElem? (i := 4) rfl)) (fun _ h9 => h9) rfl (tyX0_ok 1 (by decide)) rfl rfl (Nat.le_of_ble_eq_true rfl) dX0_recall_49 (fun H locs hP hD hS => ?_)
    have hP : va_P g.1 vwCl [(q_this, .inr (0, [.int u2, .int u3, .int v_burnt, .int v_out, .int (v_known - 1), .ref q_past, .int v_isKept])), (q_past, .inl (g.2.1, 40, .inl f_past))] H := hP
    have hD : va_D A [(q_this, .inr (0, [.int u2, .int u3, .int v_burnt, .int v_out, .int (v_known - 1), .ref q_past, .int v_isKept])), (q_past, .inl (g.2.1, 40, .inl f_past))] := hD
    refine lv_aload_n hx hb dX0_recall_52 rfl (lv_at hl 1 rfl) ?_
    refine lv_aload_n hx hb dX0_recall_53 rfl (lv_at hl 1 rfl) ?_
    refine va_get (D := g.1) (ci := 0) (v := .ref q_past) (C := RX0) (T := TX0) (N := 7) hx hb hts in_X0_recall_X0 hown hK hP 0 rfl rfl 5 (by decide) (hts (.fieldLink RX0 11 "LightKeepers$Moment" "past" "[I") (List.mem_of_getElem? (i := 2) rfl)) (fun _ h9 => h9) rfl dX0_recall_54 ?_
    refine lv_iload_n hx hb dX0_recall_57 rfl (lv_at hl 0 rfl) ?_
    refine lv_iconst (v := 2) hx hb dX0_recall_58 (by decide) ?_
    refine lv_iadd hx hb dX0_recall_59 ?_
    obtain ⟨u4, hu4, hres⟩ := bd hres
    refine k_i C0 (run_SN (As := [.ref q_past, .int (((v_known - 1) * 4) + 2)]) (rest := [.ref q_this]) C0 (c_X6_item l g (q_a0 := q_past) (n_a0 := 40) (f_a0 := f_past) (x1 := (((v_known - 1) * 4) + 2)) (u0 := u4) hu4 _) 2 gX0_recall_X6_item_n45 rfl rfl rfl (List.mem_of_getElem? (i := 5) rfl) (List.mem_of_getElem? (i := 7) rfl) (List.mem_of_getElem? (i := 8) rfl) hd_X6_item ⟨Nat.le_of_ble_eq_true rfl, Nat.le_of_ble_eq_true rfl⟩ hP hD hS [1] rfl rfl rfl hl.1 rfl (Nat.le_of_ble_eq_true rfl) ⟨Nat.zero_le _, Nat.zero_le _⟩ dX0_recall_60) hP hD hS [1] [0] rfl rfl rfl (by decide) (fun H locs hP hD hS => ?_)
    have hP : va_P g.1 vwCl [(q_this, .inr (0, [.int u2, .int u3, .int v_burnt, .int v_out, .int (v_known - 1), .ref q_past, .int v_isKept])), (q_past, .inl (g.2.1, 40, .inl f_past))] H := hP
    have hD : va_D A [(q_this, .inr (0, [.int u2, .int u3, .int v_burnt, .int v_out, .int (v_known - 1), .ref q_past, .int v_isKept])), (q_past, .inl (g.2.1, 40, .inl f_past))] := hD
    refine va_put (D := g.1) (ci := 0) (v := .int u4) (ty := .int) (C := RX0) (T := TX0) (N := 7) hx hb hts in_X0_recall_X0 tyX0 tyX0_ok nmX0 hown hK hP hD hS 0 rfl rfl 2 (by decide) (hts (.fieldLink RX0 22 "LightKeepers$Moment" "burnt" "I") (List.mem_of_getElem? (i := 5) rfl)) (fun _ h9 => h9) rfl (tyX0_ok 2 (by decide)) rfl rfl (Nat.le_of_ble_eq_true rfl) dX0_recall_63 (fun H locs hP hD hS => ?_)
    have hP : va_P g.1 vwCl [(q_this, .inr (0, [.int u2, .int u3, .int u4, .int v_out, .int (v_known - 1), .ref q_past, .int v_isKept])), (q_past, .inl (g.2.1, 40, .inl f_past))] H := hP
    have hD : va_D A [(q_this, .inr (0, [.int u2, .int u3, .int u4, .int v_out, .int (v_known - 1), .ref q_past, .int v_isKept])), (q_past, .inl (g.2.1, 40, .inl f_past))] := hD
    refine lv_aload_n hx hb dX0_recall_66 rfl (lv_at hl 1 rfl) ?_
    refine lv_aload_n hx hb dX0_recall_67 rfl (lv_at hl 1 rfl) ?_
    refine va_get (D := g.1) (ci := 0) (v := .ref q_past) (C := RX0) (T := TX0) (N := 7) hx hb hts in_X0_recall_X0 hown hK hP 0 rfl rfl 5 (by decide) (hts (.fieldLink RX0 11 "LightKeepers$Moment" "past" "[I") (List.mem_of_getElem? (i := 2) rfl)) (fun _ h9 => h9) rfl dX0_recall_68 ?_
    refine lv_iload_n hx hb dX0_recall_71 rfl (lv_at hl 0 rfl) ?_
    refine lv_iconst (v := 3) hx hb dX0_recall_72 (by decide) ?_
    refine lv_iadd hx hb dX0_recall_73 ?_
    obtain ⟨u5, hu5, hres⟩ := bd hres
    refine k_i C0 (run_SN (As := [.ref q_past, .int (((v_known - 1) * 4) + 3)]) (rest := [.ref q_this]) C0 (c_X6_item l g (q_a0 := q_past) (n_a0 := 40) (f_a0 := f_past) (x1 := (((v_known - 1) * 4) + 3)) (u0 := u5) hu5 _) 2 gX0_recall_X6_item_n45 rfl rfl rfl (List.mem_of_getElem? (i := 5) rfl) (List.mem_of_getElem? (i := 7) rfl) (List.mem_of_getElem? (i := 8) rfl) hd_X6_item ⟨Nat.le_of_ble_eq_true rfl, Nat.le_of_ble_eq_true rfl⟩ hP hD hS [1] rfl rfl rfl hl.1 rfl (Nat.le_of_ble_eq_true rfl) ⟨Nat.zero_le _, Nat.zero_le _⟩ dX0_recall_74) hP hD hS [1] [0] rfl rfl rfl (by decide) (fun H locs hP hD hS => ?_)
    have hP : va_P g.1 vwCl [(q_this, .inr (0, [.int u2, .int u3, .int u4, .int v_out, .int (v_known - 1), .ref q_past, .int v_isKept])), (q_past, .inl (g.2.1, 40, .inl f_past))] H := hP
    have hD : va_D A [(q_this, .inr (0, [.int u2, .int u3, .int u4, .int v_out, .int (v_known - 1), .ref q_past, .int v_isKept])), (q_past, .inl (g.2.1, 40, .inl f_past))] := hD
    refine va_put (D := g.1) (ci := 0) (v := .int u5) (ty := .int) (C := RX0) (T := TX0) (N := 7) hx hb hts in_X0_recall_X0 tyX0 tyX0_ok nmX0 hown hK hP hD hS 0 rfl rfl 3 (by decide) (hts (.fieldLink RX0 25 "LightKeepers$Moment" "out" "I") (List.mem_of_getElem? (i := 6) rfl)) (fun _ h9 => h9) rfl (tyX0_ok 3 (by decide)) rfl rfl (Nat.le_of_ble_eq_true rfl) dX0_recall_77 (fun H locs hP hD hS => ?_)
    have hP : va_P g.1 vwCl [(q_this, .inr (0, [.int u2, .int u3, .int u4, .int u5, .int (v_known - 1), .ref q_past, .int v_isKept])), (q_past, .inl (g.2.1, 40, .inl f_past))] H := hP
    have hD : va_D A [(q_this, .inr (0, [.int u2, .int u3, .int u4, .int u5, .int (v_known - 1), .ref q_past, .int v_isKept])), (q_past, .inl (g.2.1, 40, .inl f_past))] := hD
    refine lv_iconst (v := 1) hx hb dX0_recall_80 (by decide) ?_
    cases hres
    exact ret_z C0 (v := 1) rfl hP hD hS dX0_recall_81
  · have hres := it_f hres c1
    refine lv_iconst (v := 0) hx hb dX0_recall_7 (by decide) ?_
    cases hres
    exact ret_z C0 (v := 0) rfl hP hD hS dX0_recall_8
set_option maxHeartbeats 4000000 in
set_option maxRecDepth 100000 in
theorem c_X1_add (l : Launch) (g : gG) {q_this q_bytes : Nat} {v_length : Int32} {v_place : Int32} {v_end : Int32} {v_token : Int32} {v_value : Int32} {f_bytes : Nat → Int32} {x1 : Int32} {u0 : Int32 × Int32 × (Nat → Int32)} (hres : f_X1_add v_length f_bytes x1 = some u0) : Ci l g yX1_add wsX1_add rm_X1_add [.ref q_this, .int x1] [(q_this, .inr (1, [.ref q_bytes, .int v_length, .int v_place, .int v_end, .int v_token, .int v_value])), (q_bytes, .inl (g.2.1, 120, .inl f_bytes))] [(q_this, .inr (1, [.ref q_bytes, .int u0.2.1, .int v_place, .int v_end, .int v_token, .int v_value])), (q_bytes, .inl (g.2.1, 120, .inl u0.2.2))] u0.1 := by
  intro sz
  refine gBody (Qf := fun A => gQi g [(q_this, .inr (1, [.ref q_bytes, .int u0.2.1, .int v_place, .int v_end, .int v_token, .int v_value])), (q_bytes, .inl (g.2.1, 120, .inl u0.2.2))] u0.1 A) (cc := cX1_add) (maxL := 2) (ret := (some .boolean)) (own := RX1) (by decide +kernel) rfl rfl (Nat.le_of_ble_eq_true rfl) ?_
  intro p e s m args below meth c A C0 H hS hD hP ls hl
  obtain ⟨hx, hb, hml, hown, hts, hr, hlk, hN, hK, hF, hA⟩ := id C0
  have hl : lv_has ls 2 [(0, .ref q_this), (1, .int x1)] := hl
  unfold f_X1_add at hres
  refine lv_aload_n hx hb dX1_add_0 rfl (lv_at hl 0 rfl) ?_
  refine va_get (D := g.1) (ci := 1) (v := .int v_length) (C := RX1) (T := TX1) (N := 6) hx hb hts in_X1_add_X1 hown hK hP 0 rfl rfl 1 (by decide) (hts (.fieldLink RX1 15 "LightKeepers$Reader" "length" "I") (List.mem_of_getElem? (i := 1) rfl)) (fun _ h9 => h9) rfl dX1_add_1 ?_
  refine lv_bipush (v := 120) hx hb dX1_add_4 (by decide) ?_
  refine lv_icmp_lt (tgt := 11) hx hb dX1_add_6 (by decide) (fun c1 => ?_) (fun c1 => ?_)
  · have hres := it_t hres c1
    refine lv_aload_n hx hb dX1_add_11 rfl (lv_at hl 0 rfl) ?_
    refine va_get (D := g.1) (ci := 1) (v := .ref q_bytes) (C := RX1) (T := TX1) (N := 6) hx hb hts in_X1_add_X1 hown hK hP 0 rfl rfl 0 (by decide) (hts (.fieldLink RX1 9 "LightKeepers$Reader" "bytes" "[I") (List.mem_of_getElem? (i := 2) rfl)) (fun _ h9 => h9) rfl dX1_add_12 ?_
    refine lv_aload_n hx hb dX1_add_15 rfl (lv_at hl 0 rfl) ?_
    refine va_get (D := g.1) (ci := 1) (v := .int v_length) (C := RX1) (T := TX1) (N := 6) hx hb hts in_X1_add_X1 hown hK hP 0 rfl rfl 1 (by decide) (hts (.fieldLink RX1 15 "LightKeepers$Reader" "length" "I") (List.mem_of_getElem? (i := 1) rfl)) (fun _ h9 => h9) rfl dX1_add_16 ?_
    refine lv_iload_n hx hb dX1_add_19 rfl (lv_at hl 1 rfl) ?_
    obtain ⟨u2, hu2, hres⟩ := bd hres
    refine k_v C0 (run_SN (As := [.ref q_bytes, .int v_length, .int x1]) (rest := []) C0 (c_X6_put l g (q_a0 := q_bytes) (n_a0 := 120) (f_a0 := f_bytes) (x1 := v_length) (x2 := x1) (u0 := u2) hu2 _) 3 gX1_add_X6_put_n19 rfl rfl rfl (List.mem_of_getElem? (i := 6) rfl) (List.mem_of_getElem? (i := 3) rfl) (List.mem_of_getElem? (i := 4) rfl) hd_X6_put ⟨Nat.le_of_ble_eq_true rfl, Nat.le_of_ble_eq_true rfl⟩ hP hD hS [1] rfl rfl rfl hl.1 rfl (Nat.le_of_ble_eq_true rfl) ⟨Nat.zero_le _, Nat.zero_le _⟩ dX1_add_20) hP hD hS [1] [0] rfl rfl rfl (by decide) (fun H locs hP hD hS => ?_)
    have hP : va_P g.1 vwCl [(q_this, .inr (1, [.ref q_bytes, .int v_length, .int v_place, .int v_end, .int v_token, .int v_value])), (q_bytes, .inl (g.2.1, 120, .inl u2))] H := hP
    have hD : va_D A [(q_this, .inr (1, [.ref q_bytes, .int v_length, .int v_place, .int v_end, .int v_token, .int v_value])), (q_bytes, .inl (g.2.1, 120, .inl u2))] := hD
    refine lv_aload_n hx hb dX1_add_23 rfl (lv_at hl 0 rfl) ?_
    refine lv_dup hx hb dX1_add_24 rfl ?_
    refine va_get (D := g.1) (ci := 1) (v := .int v_length) (C := RX1) (T := TX1) (N := 6) hx hb hts in_X1_add_X1 hown hK hP 0 rfl rfl 1 (by decide) (hts (.fieldLink RX1 15 "LightKeepers$Reader" "length" "I") (List.mem_of_getElem? (i := 1) rfl)) (fun _ h9 => h9) rfl dX1_add_25 ?_
    refine lv_iconst (v := 1) hx hb dX1_add_28 (by decide) ?_
    refine lv_iadd hx hb dX1_add_29 ?_
    refine va_put (D := g.1) (ci := 1) (v := .int (v_length + 1)) (ty := .int) (C := RX1) (T := TX1) (N := 6) hx hb hts in_X1_add_X1 tyX1 tyX1_ok nmX1 hown hK hP hD hS 0 rfl rfl 1 (by decide) (hts (.fieldLink RX1 15 "LightKeepers$Reader" "length" "I") (List.mem_of_getElem? (i := 1) rfl)) (fun _ h9 => h9) rfl (tyX1_ok 1 (by decide)) rfl rfl (Nat.le_of_ble_eq_true rfl) dX1_add_30 (fun H locs hP hD hS => ?_)
    have hP : va_P g.1 vwCl [(q_this, .inr (1, [.ref q_bytes, .int (v_length + 1), .int v_place, .int v_end, .int v_token, .int v_value])), (q_bytes, .inl (g.2.1, 120, .inl u2))] H := hP
    have hD : va_D A [(q_this, .inr (1, [.ref q_bytes, .int (v_length + 1), .int v_place, .int v_end, .int v_token, .int v_value])), (q_bytes, .inl (g.2.1, 120, .inl u2))] := hD
    refine lv_iconst (v := 1) hx hb dX1_add_33 (by decide) ?_
    cases hres
    exact ret_z C0 (v := 1) rfl hP hD hS dX1_add_34
  · have hres := it_f hres c1
    refine lv_iconst (v := 0) hx hb dX1_add_9 (by decide) ?_
    cases hres
    exact ret_z C0 (v := 0) rfl hP hD hS dX1_add_10
set_option maxHeartbeats 4000000 in
set_option maxRecDepth 100000 in
theorem c_X1_isDigit (l : Launch) (g : gG) {x0 : Int32} {u0 : Int32} (hres : f_X1_isDigit x0 = some u0) : Ci l g yX1_isDigit wsX1_isDigit rm_X1_isDigit [.int x0] [] [] u0 := by
  intro sz
  refine gBody (Qf := fun A => gQi g [] u0 A) (cc := cX1_isDigit) (maxL := 1) (ret := (some .boolean)) (own := RX1) (by decide +kernel) rfl rfl (Nat.le_of_ble_eq_true rfl) ?_
  intro p e s m args below meth c A C0 H hS hD hP ls hl
  obtain ⟨hx, hb, hml, hown, hts, hr, hlk, hN, hK, hF, hA⟩ := id C0
  have hl : lv_has ls 1 [(0, .int x0)] := hl
  unfold f_X1_isDigit at hres
  refine lv_iload_n hx hb dX1_isDigit_0 rfl (lv_at hl 0 rfl) ?_
  refine lv_bipush (v := 48) hx hb dX1_isDigit_1 (by decide) ?_
  refine lv_icmp_lt (tgt := 16) hx hb dX1_isDigit_3 (by decide) (fun c1 => ?_) (fun c1 => ?_)
  · have hres := it_t hres c1
    refine lv_iconst (v := 0) hx hb dX1_isDigit_16 (by decide) ?_
    cases hres
    exact ret_z C0 (v := 0) rfl hP hD hS dX1_isDigit_17
  · have hres := it_f hres c1
    refine lv_iload_n hx hb dX1_isDigit_6 rfl (lv_at hl 0 rfl) ?_
    refine lv_bipush (v := 57) hx hb dX1_isDigit_7 (by decide) ?_
    refine lv_icmp_gt (tgt := 16) hx hb dX1_isDigit_9 (by decide) (fun c2 => ?_) (fun c2 => ?_)
    · have hres := it_t hres c2
      refine lv_iconst (v := 0) hx hb dX1_isDigit_16 (by decide) ?_
      cases hres
      exact ret_z C0 (v := 0) rfl hP hD hS dX1_isDigit_17
    · have hres := it_f hres c2
      refine lv_iconst (v := 1) hx hb dX1_isDigit_12 (by decide) ?_
      refine lv_goto (tgt := 17) hx hb dX1_isDigit_13 (by decide) ?_
      cases hres
      exact ret_z C0 (v := 1) rfl hP hD hS dX1_isDigit_17
set_option maxHeartbeats 4000000 in
set_option maxRecDepth 100000 in
theorem c_X1_isLetter (l : Launch) (g : gG) {x0 : Int32} {u0 : Int32} (hres : f_X1_isLetter x0 = some u0) : Ci l g yX1_isLetter wsX1_isLetter rm_X1_isLetter [.int x0] [] [] u0 := by
  intro sz
  refine gBody (Qf := fun A => gQi g [] u0 A) (cc := cX1_isLetter) (maxL := 1) (ret := (some .boolean)) (own := RX1) (by decide +kernel) rfl rfl (Nat.le_of_ble_eq_true rfl) ?_
  intro p e s m args below meth c A C0 H hS hD hP ls hl
  obtain ⟨hx, hb, hml, hown, hts, hr, hlk, hN, hK, hF, hA⟩ := id C0
  have hl : lv_has ls 1 [(0, .int x0)] := hl
  unfold f_X1_isLetter at hres
  refine lv_iload_n hx hb dX1_isLetter_0 rfl (lv_at hl 0 rfl) ?_
  refine lv_bipush (v := 97) hx hb dX1_isLetter_1 (by decide) ?_
  refine lv_icmp_lt (tgt := 16) hx hb dX1_isLetter_3 (by decide) (fun c1 => ?_) (fun c1 => ?_)
  · have hres := it_t hres c1
    refine lv_iconst (v := 0) hx hb dX1_isLetter_16 (by decide) ?_
    cases hres
    exact ret_z C0 (v := 0) rfl hP hD hS dX1_isLetter_17
  · have hres := it_f hres c1
    refine lv_iload_n hx hb dX1_isLetter_6 rfl (lv_at hl 0 rfl) ?_
    refine lv_bipush (v := 122) hx hb dX1_isLetter_7 (by decide) ?_
    refine lv_icmp_gt (tgt := 16) hx hb dX1_isLetter_9 (by decide) (fun c2 => ?_) (fun c2 => ?_)
    · have hres := it_t hres c2
      refine lv_iconst (v := 0) hx hb dX1_isLetter_16 (by decide) ?_
      cases hres
      exact ret_z C0 (v := 0) rfl hP hD hS dX1_isLetter_17
    · have hres := it_f hres c2
      refine lv_iconst (v := 1) hx hb dX1_isLetter_12 (by decide) ?_
      refine lv_goto (tgt := 17) hx hb dX1_isLetter_13 (by decide) ?_
      cases hres
      exact ret_z C0 (v := 1) rfl hP hD hS dX1_isLetter_17
set_option maxHeartbeats 4000000 in
set_option maxRecDepth 100000 in
theorem w_X1_nextDigits_L8 {p : Program} {l : Launch} {e : Env} {s : State} {m : MethodId} {args : Array Value} {below : List Frame} {meth : Method} {c : Code} {g : gG} {A : Nat → Prop} {q_this q_bytes : Nat} {v_length : Int32} {v_place : Int32} {v_token : Int32} {f_bytes : Nat → Int32} {x1 : Int32} {u0 : Int32 × Int32 × Int32} {k : Int32 → Int32 → Option (Int32 × Int32 × Int32)} {n : Nat} {v_end : Int32} {v_value : Int32} {H : Heap} {locs : List Loc} {ls : Array Slot} (C0 : Cx p s m args meth c RX1 cX1_nextDigits 3 wsX1_nextDigits none g A)
    (hP : va_P g.1 vwCl [(q_this, .inr (1, [.ref q_bytes, .int v_length, .int v_place, .int v_end, .int v_token, .int v_value])), (q_bytes, .inl (g.2.1, 120, .inl f_bytes))] H) (hD : va_D A [(q_this, .inr (1, [.ref q_bytes, .int v_length, .int v_place, .int v_end, .int v_token, .int v_value])), (q_bytes, .inl (g.2.1, 120, .inl f_bytes))]) (hS : va_S A s.heap H locs) (hl : lv_has ls 3 [(0, .ref q_this), (1, .int x1)]) (hres : lp_X1_nextDigits_L8 v_length f_bytes k n v_end v_value = some u0)
    (K : ∀ (v_end : Int32) (v_value : Int32) (H : Heap) (locs : List Loc) (ls : Array Slot), va_P g.1 vwCl [(q_this, .inr (1, [.ref q_bytes, .int v_length, .int v_place, .int v_end, .int v_token, .int v_value])), (q_bytes, .inl (g.2.1, 120, .inl f_bytes))] H → va_D A [(q_this, .inr (1, [.ref q_bytes, .int v_length, .int v_place, .int v_end, .int v_token, .int v_value])), (q_bytes, .inl (g.2.1, 120, .inl f_bytes))] → va_S A s.heap H locs → lv_has ls 3 [(0, .ref q_this), (1, .int x1)] → k v_end v_value = some u0 → W p l e rm_X1_nextDigits s m args below meth c H locs 0 0 (MQ below (gQv g [(q_this, .inr (1, [.ref q_bytes, .int v_length, .int v_place, .int u0.1, .int u0.2.1, .int u0.2.2])), (q_bytes, .inl (g.2.1, 120, .inl f_bytes))] A) args s 0 0 A) (F0 m 80 ls [])) :
    W p l e rm_X1_nextDigits s m args below meth c H locs 0 0 (MQ below (gQv g [(q_this, .inr (1, [.ref q_bytes, .int v_length, .int v_place, .int u0.1, .int u0.2.1, .int u0.2.2])), (q_bytes, .inl (g.2.1, 120, .inl f_bytes))] A) args s 0 0 A) (F0 m 8 ls []) := by
  obtain ⟨hx, hb, hml, hown, hts, hr, hlk, hN, hK, hF, hA⟩ := id C0
  induction n generalizing v_end v_value H locs ls with
  | zero => cases hres
  | succ n ih =>
    unfold lp_X1_nextDigits_L8 at hres
    refine lv_aload_n hx hb dX1_nextDigits_8 rfl (lv_at hl 0 rfl) ?_
    refine va_get (D := g.1) (ci := 1) (v := .int v_end) (C := RX1) (T := TX1) (N := 6) hx hb hts in_X1_nextDigits_X1 hown hK hP 0 rfl rfl 3 (by decide) (hts (.fieldLink RX1 28 "LightKeepers$Reader" "end" "I") (List.mem_of_getElem? (i := 2) rfl)) (fun _ h9 => h9) rfl dX1_nextDigits_9 ?_
    refine lv_aload_n hx hb dX1_nextDigits_12 rfl (lv_at hl 0 rfl) ?_
    refine va_get (D := g.1) (ci := 1) (v := .int v_length) (C := RX1) (T := TX1) (N := 6) hx hb hts in_X1_nextDigits_X1 hown hK hP 0 rfl rfl 1 (by decide) (hts (.fieldLink RX1 15 "LightKeepers$Reader" "length" "I") (List.mem_of_getElem? (i := 3) rfl)) (fun _ h9 => h9) rfl dX1_nextDigits_13 ?_
    refine lv_icmp_ge (tgt := 80) hx hb dX1_nextDigits_16 (by decide) (fun c1 => ?_) (fun c1 => ?_)
    · have hres := it_t hres c1
      exact K _ _ _ _ _ hP hD hS hl hres
    · have hres := it_f hres c1
      refine lv_aload_n hx hb dX1_nextDigits_19 rfl (lv_at hl 0 rfl) ?_
      refine va_get (D := g.1) (ci := 1) (v := .ref q_bytes) (C := RX1) (T := TX1) (N := 6) hx hb hts in_X1_nextDigits_X1 hown hK hP 0 rfl rfl 0 (by decide) (hts (.fieldLink RX1 9 "LightKeepers$Reader" "bytes" "[I") (List.mem_of_getElem? (i := 4) rfl)) (fun _ h9 => h9) rfl dX1_nextDigits_20 ?_
      refine lv_aload_n hx hb dX1_nextDigits_23 rfl (lv_at hl 0 rfl) ?_
      refine va_get (D := g.1) (ci := 1) (v := .int v_end) (C := RX1) (T := TX1) (N := 6) hx hb hts in_X1_nextDigits_X1 hown hK hP 0 rfl rfl 3 (by decide) (hts (.fieldLink RX1 28 "LightKeepers$Reader" "end" "I") (List.mem_of_getElem? (i := 2) rfl)) (fun _ h9 => h9) rfl dX1_nextDigits_24 ?_
      obtain ⟨u2, hu2, hres⟩ := bd hres
      refine k_i C0 (run_SN (As := [.ref q_bytes, .int v_end]) (rest := []) C0 (c_X6_item l g (q_a0 := q_bytes) (n_a0 := 120) (f_a0 := f_bytes) (x1 := v_end) (u0 := u2) hu2 _) 2 gX1_nextDigits_X6_item_n82 rfl rfl rfl (List.mem_of_getElem? (i := 7) rfl) (List.mem_of_getElem? (i := 11) rfl) (List.mem_of_getElem? (i := 12) rfl) hd_X6_item ⟨Nat.le_of_ble_eq_true rfl, Nat.le_of_ble_eq_true rfl⟩ hP hD hS [1] rfl rfl rfl hl.1 rfl (Nat.le_of_ble_eq_true rfl) ⟨Nat.zero_le _, Nat.zero_le _⟩ dX1_nextDigits_27) hP hD hS [1] [0] rfl rfl rfl (by decide) (fun H locs hP hD hS => ?_)
      have hP : va_P g.1 vwCl [(q_this, .inr (1, [.ref q_bytes, .int v_length, .int v_place, .int v_end, .int v_token, .int v_value])), (q_bytes, .inl (g.2.1, 120, .inl f_bytes))] H := hP
      have hD : va_D A [(q_this, .inr (1, [.ref q_bytes, .int v_length, .int v_place, .int v_end, .int v_token, .int v_value])), (q_bytes, .inl (g.2.1, 120, .inl f_bytes))] := hD
      obtain ⟨u3, hu3, hres⟩ := bd hres
      refine k_i C0 (run_S (As := [.int u2]) (rest := []) C0 (c_X1_isDigit l g (x0 := u2) (u0 := u3) hu3 _) 1 gX1_nextDigits_X1_isDigit rfl rfl rfl hd_X1_isDigit ⟨Nat.le_of_ble_eq_true rfl, Nat.le_of_ble_eq_true rfl⟩ hP hD hS [] rfl rfl rfl hl.1 rfl (Nat.le_of_ble_eq_true rfl) ⟨Nat.zero_le _, Nat.zero_le _⟩ dX1_nextDigits_30) hP hD hS [] [0, 1] rfl rfl rfl (by decide) (fun H locs hP hD hS => ?_)
      have hP : va_P g.1 vwCl [(q_this, .inr (1, [.ref q_bytes, .int v_length, .int v_place, .int v_end, .int v_token, .int v_value])), (q_bytes, .inl (g.2.1, 120, .inl f_bytes))] H := hP
      have hD : va_D A [(q_this, .inr (1, [.ref q_bytes, .int v_length, .int v_place, .int v_end, .int v_token, .int v_value])), (q_bytes, .inl (g.2.1, 120, .inl f_bytes))] := hD
      refine lv_if_eq (tgt := 80) hx hb dX1_nextDigits_33 (by decide) (fun c4 => ?_) (fun c4 => ?_)
      · have hres := it_t hres c4
        exact K _ _ _ _ _ hP hD hS hl hres
      · have hres := it_f hres c4
        refine lv_aload_n hx hb dX1_nextDigits_36 rfl (lv_at hl 0 rfl) ?_
        refine lv_bipush (v := 100) hx hb dX1_nextDigits_37 (by decide) ?_
        refine lv_aload_n hx hb dX1_nextDigits_39 rfl (lv_at hl 0 rfl) ?_
        refine va_get (D := g.1) (ci := 1) (v := .int v_value) (C := RX1) (T := TX1) (N := 6) hx hb hts in_X1_nextDigits_X1 hown hK hP 0 rfl rfl 5 (by decide) (hts (.fieldLink RX1 37 "LightKeepers$Reader" "value" "I") (List.mem_of_getElem? (i := 1) rfl)) (fun _ h9 => h9) rfl dX1_nextDigits_40 ?_
        refine lv_bipush (v := 10) hx hb dX1_nextDigits_43 (by decide) ?_
        refine lv_imul hx hb dX1_nextDigits_45 ?_
        refine lv_aload_n hx hb dX1_nextDigits_46 rfl (lv_at hl 0 rfl) ?_
        refine va_get (D := g.1) (ci := 1) (v := .ref q_bytes) (C := RX1) (T := TX1) (N := 6) hx hb hts in_X1_nextDigits_X1 hown hK hP 0 rfl rfl 0 (by decide) (hts (.fieldLink RX1 9 "LightKeepers$Reader" "bytes" "[I") (List.mem_of_getElem? (i := 4) rfl)) (fun _ h9 => h9) rfl dX1_nextDigits_47 ?_
        refine lv_aload_n hx hb dX1_nextDigits_50 rfl (lv_at hl 0 rfl) ?_
        refine va_get (D := g.1) (ci := 1) (v := .int v_end) (C := RX1) (T := TX1) (N := 6) hx hb hts in_X1_nextDigits_X1 hown hK hP 0 rfl rfl 3 (by decide) (hts (.fieldLink RX1 28 "LightKeepers$Reader" "end" "I") (List.mem_of_getElem? (i := 2) rfl)) (fun _ h9 => h9) rfl dX1_nextDigits_51 ?_
        obtain ⟨u5, hu5, hres⟩ := bd hres
        refine k_i C0 (run_SN (As := [.ref q_bytes, .int v_end]) (rest := [.int (v_value * 10), .int 100, .ref q_this]) C0 (c_X6_item l g (q_a0 := q_bytes) (n_a0 := 120) (f_a0 := f_bytes) (x1 := v_end) (u0 := u5) hu5 _) 2 gX1_nextDigits_X6_item_n82 rfl rfl rfl (List.mem_of_getElem? (i := 7) rfl) (List.mem_of_getElem? (i := 11) rfl) (List.mem_of_getElem? (i := 12) rfl) hd_X6_item ⟨Nat.le_of_ble_eq_true rfl, Nat.le_of_ble_eq_true rfl⟩ hP hD hS [1] rfl rfl rfl hl.1 rfl (Nat.le_of_ble_eq_true rfl) ⟨Nat.zero_le _, Nat.zero_le _⟩ dX1_nextDigits_54) hP hD hS [1] [0] rfl rfl rfl (by decide) (fun H locs hP hD hS => ?_)
        have hP : va_P g.1 vwCl [(q_this, .inr (1, [.ref q_bytes, .int v_length, .int v_place, .int v_end, .int v_token, .int v_value])), (q_bytes, .inl (g.2.1, 120, .inl f_bytes))] H := hP
        have hD : va_D A [(q_this, .inr (1, [.ref q_bytes, .int v_length, .int v_place, .int v_end, .int v_token, .int v_value])), (q_bytes, .inl (g.2.1, 120, .inl f_bytes))] := hD
        refine lv_iadd hx hb dX1_nextDigits_57 ?_
        refine lv_bipush (v := 48) hx hb dX1_nextDigits_58 (by decide) ?_
        refine lv_isub hx hb dX1_nextDigits_60 ?_
        refine va_mmin hx hb (hml.trans hl.1.symm) hown (hts (.methodLink RX1 99 Lib.Math.min.name) (List.mem_of_getElem? (i := 5) rfl)) (hts (.static Lib.Math.min.name) (List.mem_of_getElem? (i := 6) rfl)) (hts (.initialized "java/lang/Math") (List.mem_of_getElem? (i := 7) rfl)) (hts (.code Lib.Math.min.name Lib.Math.min.code 2 (some .int)) (List.mem_of_getElem? (i := 8) rfl)) (Nat.le_of_ble_eq_true rfl) (Nat.le_of_ble_eq_true rfl) (Nat.zero_le _) (Nat.zero_le _) dX1_nextDigits_61 ?_
        refine va_put (D := g.1) (ci := 1) (v := .int (if (((v_value * 10) + u5) - 48) < 100 then (((v_value * 10) + u5) - 48) else 100)) (ty := .int) (C := RX1) (T := TX1) (N := 6) hx hb hts in_X1_nextDigits_X1 tyX1 tyX1_ok nmX1 hown hK hP hD hS 0 rfl rfl 5 (by decide) (hts (.fieldLink RX1 37 "LightKeepers$Reader" "value" "I") (List.mem_of_getElem? (i := 1) rfl)) (fun _ h9 => h9) rfl (tyX1_ok 5 (by decide)) rfl rfl (Nat.le_of_ble_eq_true rfl) dX1_nextDigits_64 (fun H locs hP hD hS => ?_)
        have hP : va_P g.1 vwCl [(q_this, .inr (1, [.ref q_bytes, .int v_length, .int v_place, .int v_end, .int v_token, .int (if (((v_value * 10) + u5) - 48) < 100 then (((v_value * 10) + u5) - 48) else 100)])), (q_bytes, .inl (g.2.1, 120, .inl f_bytes))] H := hP
        have hD : va_D A [(q_this, .inr (1, [.ref q_bytes, .int v_length, .int v_place, .int v_end, .int v_token, .int (if (((v_value * 10) + u5) - 48) < 100 then (((v_value * 10) + u5) - 48) else 100)])), (q_bytes, .inl (g.2.1, 120, .inl f_bytes))] := hD
        refine lv_aload_n hx hb dX1_nextDigits_67 rfl (lv_at hl 0 rfl) ?_
        refine lv_dup hx hb dX1_nextDigits_68 rfl ?_
        refine va_get (D := g.1) (ci := 1) (v := .int v_end) (C := RX1) (T := TX1) (N := 6) hx hb hts in_X1_nextDigits_X1 hown hK hP 0 rfl rfl 3 (by decide) (hts (.fieldLink RX1 28 "LightKeepers$Reader" "end" "I") (List.mem_of_getElem? (i := 2) rfl)) (fun _ h9 => h9) rfl dX1_nextDigits_69 ?_
        refine lv_iconst (v := 1) hx hb dX1_nextDigits_72 (by decide) ?_
        refine lv_iadd hx hb dX1_nextDigits_73 ?_
        refine va_put (D := g.1) (ci := 1) (v := .int (v_end + 1)) (ty := .int) (C := RX1) (T := TX1) (N := 6) hx hb hts in_X1_nextDigits_X1 tyX1 tyX1_ok nmX1 hown hK hP hD hS 0 rfl rfl 3 (by decide) (hts (.fieldLink RX1 28 "LightKeepers$Reader" "end" "I") (List.mem_of_getElem? (i := 2) rfl)) (fun _ h9 => h9) rfl (tyX1_ok 3 (by decide)) rfl rfl (Nat.le_of_ble_eq_true rfl) dX1_nextDigits_74 (fun H locs hP hD hS => ?_)
        have hP : va_P g.1 vwCl [(q_this, .inr (1, [.ref q_bytes, .int v_length, .int v_place, .int (v_end + 1), .int v_token, .int (if (((v_value * 10) + u5) - 48) < 100 then (((v_value * 10) + u5) - 48) else 100)])), (q_bytes, .inl (g.2.1, 120, .inl f_bytes))] H := hP
        have hD : va_D A [(q_this, .inr (1, [.ref q_bytes, .int v_length, .int v_place, .int (v_end + 1), .int v_token, .int (if (((v_value * 10) + u5) - 48) < 100 then (((v_value * 10) + u5) - 48) else 100)])), (q_bytes, .inl (g.2.1, 120, .inl f_bytes))] := hD
        refine lv_goto (tgt := 8) hx hb dX1_nextDigits_77 (by decide) ?_
        exact ih hP hD hS hl hres
set_option maxHeartbeats 4000000 in
set_option maxRecDepth 100000 in
theorem c_X1_nextDigits (l : Launch) (g : gG) {q_this q_bytes : Nat} {v_length : Int32} {v_place : Int32} {v_end : Int32} {v_token : Int32} {v_value : Int32} {f_bytes : Nat → Int32} {x1 : Int32} {u0 : Int32 × Int32 × Int32} (hres : f_X1_nextDigits v_length v_place v_end f_bytes x1 = some u0) : Cv l g yX1_nextDigits wsX1_nextDigits rm_X1_nextDigits [.ref q_this, .int x1] [(q_this, .inr (1, [.ref q_bytes, .int v_length, .int v_place, .int v_end, .int v_token, .int v_value])), (q_bytes, .inl (g.2.1, 120, .inl f_bytes))] [(q_this, .inr (1, [.ref q_bytes, .int v_length, .int v_place, .int u0.1, .int u0.2.1, .int u0.2.2])), (q_bytes, .inl (g.2.1, 120, .inl f_bytes))] := by
  intro sz
  refine gBody (Qf := fun A => gQv g [(q_this, .inr (1, [.ref q_bytes, .int v_length, .int v_place, .int u0.1, .int u0.2.1, .int u0.2.2])), (q_bytes, .inl (g.2.1, 120, .inl f_bytes))] A) (cc := cX1_nextDigits) (maxL := 3) (ret := none) (own := RX1) (by decide +kernel) rfl rfl (Nat.le_of_ble_eq_true rfl) ?_
  intro p e s m args below meth c A C0 H hS hD hP ls hl
  obtain ⟨hx, hb, hml, hown, hts, hr, hlk, hN, hK, hF, hA⟩ := id C0
  have hl : lv_has ls 3 [(0, .ref q_this), (1, .int x1)] := hl
  unfold f_X1_nextDigits at hres
  refine lv_aload_n hx hb dX1_nextDigits_0 rfl (lv_at hl 0 rfl) ?_
  refine lv_iload_n hx hb dX1_nextDigits_1 rfl (lv_at hl 1 rfl) ?_
  refine lv_bipush (v := 48) hx hb dX1_nextDigits_2 (by decide) ?_
  refine lv_isub hx hb dX1_nextDigits_4 ?_
  refine va_put (D := g.1) (ci := 1) (v := .int (x1 - 48)) (ty := .int) (C := RX1) (T := TX1) (N := 6) hx hb hts in_X1_nextDigits_X1 tyX1 tyX1_ok nmX1 hown hK hP hD hS 0 rfl rfl 5 (by decide) (hts (.fieldLink RX1 37 "LightKeepers$Reader" "value" "I") (List.mem_of_getElem? (i := 1) rfl)) (fun _ h9 => h9) rfl (tyX1_ok 5 (by decide)) rfl rfl (Nat.le_of_ble_eq_true rfl) dX1_nextDigits_5 (fun H locs hP hD hS => ?_)
  have hP : va_P g.1 vwCl [(q_this, .inr (1, [.ref q_bytes, .int v_length, .int v_place, .int v_end, .int v_token, .int (x1 - 48)])), (q_bytes, .inl (g.2.1, 120, .inl f_bytes))] H := hP
  have hD : va_D A [(q_this, .inr (1, [.ref q_bytes, .int v_length, .int v_place, .int v_end, .int v_token, .int (x1 - 48)])), (q_bytes, .inl (g.2.1, 120, .inl f_bytes))] := hD
  refine w_X1_nextDigits_L8 C0 hP hD hS hl hres (fun y6 y7 H locs ls hP hD hS hl hres => ?_)
  refine lv_iload_n hx hb dX1_nextDigits_80 rfl (lv_at hl 1 rfl) ?_
  refine lv_bipush (v := 48) hx hb dX1_nextDigits_81 (by decide) ?_
  refine lv_icmp_ne (tgt := 103) hx hb dX1_nextDigits_83 (by decide) (fun c8 => ?_) (fun c8 => ?_)
  · have hres := it_f hres c8
    refine lv_iconst (v := 0) hx hb dX1_nextDigits_103 (by decide) ?_
    refine lv_istore_n (lv' := [(2, .int 0), (0, .ref q_this), (1, .int x1)]) hx hb dX1_nextDigits_104 rfl hl (by decide) rfl (fun ls hl => ?_)
    refine lv_aload_n hx hb dX1_nextDigits_105 rfl (lv_at hl 1 rfl) ?_
    refine lv_aload_n hx hb dX1_nextDigits_106 rfl (lv_at hl 1 rfl) ?_
    refine va_get (D := g.1) (ci := 1) (v := .int y7) (C := RX1) (T := TX1) (N := 6) hx hb hts in_X1_nextDigits_X1 hown hK hP 0 rfl rfl 5 (by decide) (hts (.fieldLink RX1 37 "LightKeepers$Reader" "value" "I") (List.mem_of_getElem? (i := 1) rfl)) (fun _ h9 => h9) rfl dX1_nextDigits_107 ?_
    refine lv_bipush (v := 99) hx hb dX1_nextDigits_110 (by decide) ?_
    refine lv_icmp_gt (tgt := 119) hx hb dX1_nextDigits_112 (by decide) (fun c9 => ?_) (fun c9 => ?_)
    · have hres := it_t hres c9
      refine lv_iconst (v := 4) hx hb dX1_nextDigits_119 (by decide) ?_
      refine lv_goto (tgt := 124) hx hb dX1_nextDigits_120 (by decide) ?_
      refine va_put (D := g.1) (ci := 1) (v := .int 4) (ty := .int) (C := RX1) (T := TX1) (N := 6) hx hb hts in_X1_nextDigits_X1 tyX1 tyX1_ok nmX1 hown hK hP hD hS 0 rfl rfl 4 (by decide) (hts (.fieldLink RX1 34 "LightKeepers$Reader" "token" "I") (List.mem_of_getElem? (i := 10) rfl)) (fun _ h9 => h9) rfl (tyX1_ok 4 (by decide)) rfl rfl (Nat.le_of_ble_eq_true rfl) dX1_nextDigits_124 (fun H locs hP hD hS => ?_)
      have hP : va_P g.1 vwCl [(q_this, .inr (1, [.ref q_bytes, .int v_length, .int v_place, .int y6, .int 4, .int y7])), (q_bytes, .inl (g.2.1, 120, .inl f_bytes))] H := hP
      have hD : va_D A [(q_this, .inr (1, [.ref q_bytes, .int v_length, .int v_place, .int y6, .int 4, .int y7])), (q_bytes, .inl (g.2.1, 120, .inl f_bytes))] := hD
      cases hres
      exact ret_v C0 hP hD hS dX1_nextDigits_127
    · have hres := it_f hres c9
      refine lv_iload_n hx hb dX1_nextDigits_115 rfl (lv_at hl 0 rfl) ?_
      refine lv_if_eq (tgt := 123) hx hb dX1_nextDigits_116 (by decide) (fun _ => ?_) (fun c9 => absurd (by decide) c9)
      refine lv_iconst (v := 2) hx hb dX1_nextDigits_123 (by decide) ?_
      refine va_put (D := g.1) (ci := 1) (v := .int 2) (ty := .int) (C := RX1) (T := TX1) (N := 6) hx hb hts in_X1_nextDigits_X1 tyX1 tyX1_ok nmX1 hown hK hP hD hS 0 rfl rfl 4 (by decide) (hts (.fieldLink RX1 34 "LightKeepers$Reader" "token" "I") (List.mem_of_getElem? (i := 10) rfl)) (fun _ h9 => h9) rfl (tyX1_ok 4 (by decide)) rfl rfl (Nat.le_of_ble_eq_true rfl) dX1_nextDigits_124 (fun H locs hP hD hS => ?_)
      have hP : va_P g.1 vwCl [(q_this, .inr (1, [.ref q_bytes, .int v_length, .int v_place, .int y6, .int 2, .int y7])), (q_bytes, .inl (g.2.1, 120, .inl f_bytes))] H := hP
      have hD : va_D A [(q_this, .inr (1, [.ref q_bytes, .int v_length, .int v_place, .int y6, .int 2, .int y7])), (q_bytes, .inl (g.2.1, 120, .inl f_bytes))] := hD
      cases hres
      exact ret_v C0 hP hD hS dX1_nextDigits_127
  · have hres := it_t hres c8
    refine lv_aload_n hx hb dX1_nextDigits_86 rfl (lv_at hl 0 rfl) ?_
    refine va_get (D := g.1) (ci := 1) (v := .int y6) (C := RX1) (T := TX1) (N := 6) hx hb hts in_X1_nextDigits_X1 hown hK hP 0 rfl rfl 3 (by decide) (hts (.fieldLink RX1 28 "LightKeepers$Reader" "end" "I") (List.mem_of_getElem? (i := 2) rfl)) (fun _ h9 => h9) rfl dX1_nextDigits_87 ?_
    refine lv_aload_n hx hb dX1_nextDigits_90 rfl (lv_at hl 0 rfl) ?_
    refine va_get (D := g.1) (ci := 1) (v := .int v_place) (C := RX1) (T := TX1) (N := 6) hx hb hts in_X1_nextDigits_X1 hown hK hP 0 rfl rfl 2 (by decide) (hts (.fieldLink RX1 79 "LightKeepers$Reader" "place" "I") (List.mem_of_getElem? (i := 9) rfl)) (fun _ h9 => h9) rfl dX1_nextDigits_91 ?_
    refine lv_isub hx hb dX1_nextDigits_94 ?_
    refine lv_iconst (v := 1) hx hb dX1_nextDigits_95 (by decide) ?_
    refine lv_icmp_le (tgt := 103) hx hb dX1_nextDigits_96 (by decide) (fun c10 => ?_) (fun c10 => ?_)
    · have hres := it_t hres c10
      refine lv_iconst (v := 0) hx hb dX1_nextDigits_103 (by decide) ?_
      refine lv_istore_n (lv' := [(2, .int 0), (0, .ref q_this), (1, .int x1)]) hx hb dX1_nextDigits_104 rfl hl (by decide) rfl (fun ls hl => ?_)
      refine lv_aload_n hx hb dX1_nextDigits_105 rfl (lv_at hl 1 rfl) ?_
      refine lv_aload_n hx hb dX1_nextDigits_106 rfl (lv_at hl 1 rfl) ?_
      refine va_get (D := g.1) (ci := 1) (v := .int y7) (C := RX1) (T := TX1) (N := 6) hx hb hts in_X1_nextDigits_X1 hown hK hP 0 rfl rfl 5 (by decide) (hts (.fieldLink RX1 37 "LightKeepers$Reader" "value" "I") (List.mem_of_getElem? (i := 1) rfl)) (fun _ h9 => h9) rfl dX1_nextDigits_107 ?_
      refine lv_bipush (v := 99) hx hb dX1_nextDigits_110 (by decide) ?_
      refine lv_icmp_gt (tgt := 119) hx hb dX1_nextDigits_112 (by decide) (fun c11 => ?_) (fun c11 => ?_)
      · have hres := it_t hres c11
        refine lv_iconst (v := 4) hx hb dX1_nextDigits_119 (by decide) ?_
        refine lv_goto (tgt := 124) hx hb dX1_nextDigits_120 (by decide) ?_
        refine va_put (D := g.1) (ci := 1) (v := .int 4) (ty := .int) (C := RX1) (T := TX1) (N := 6) hx hb hts in_X1_nextDigits_X1 tyX1 tyX1_ok nmX1 hown hK hP hD hS 0 rfl rfl 4 (by decide) (hts (.fieldLink RX1 34 "LightKeepers$Reader" "token" "I") (List.mem_of_getElem? (i := 10) rfl)) (fun _ h9 => h9) rfl (tyX1_ok 4 (by decide)) rfl rfl (Nat.le_of_ble_eq_true rfl) dX1_nextDigits_124 (fun H locs hP hD hS => ?_)
        have hP : va_P g.1 vwCl [(q_this, .inr (1, [.ref q_bytes, .int v_length, .int v_place, .int y6, .int 4, .int y7])), (q_bytes, .inl (g.2.1, 120, .inl f_bytes))] H := hP
        have hD : va_D A [(q_this, .inr (1, [.ref q_bytes, .int v_length, .int v_place, .int y6, .int 4, .int y7])), (q_bytes, .inl (g.2.1, 120, .inl f_bytes))] := hD
        cases hres
        exact ret_v C0 hP hD hS dX1_nextDigits_127
      · have hres := it_f hres c11
        refine lv_iload_n hx hb dX1_nextDigits_115 rfl (lv_at hl 0 rfl) ?_
        refine lv_if_eq (tgt := 123) hx hb dX1_nextDigits_116 (by decide) (fun _ => ?_) (fun c9 => absurd (by decide) c9)
        refine lv_iconst (v := 2) hx hb dX1_nextDigits_123 (by decide) ?_
        refine va_put (D := g.1) (ci := 1) (v := .int 2) (ty := .int) (C := RX1) (T := TX1) (N := 6) hx hb hts in_X1_nextDigits_X1 tyX1 tyX1_ok nmX1 hown hK hP hD hS 0 rfl rfl 4 (by decide) (hts (.fieldLink RX1 34 "LightKeepers$Reader" "token" "I") (List.mem_of_getElem? (i := 10) rfl)) (fun _ h9 => h9) rfl (tyX1_ok 4 (by decide)) rfl rfl (Nat.le_of_ble_eq_true rfl) dX1_nextDigits_124 (fun H locs hP hD hS => ?_)
        have hP : va_P g.1 vwCl [(q_this, .inr (1, [.ref q_bytes, .int v_length, .int v_place, .int y6, .int 2, .int y7])), (q_bytes, .inl (g.2.1, 120, .inl f_bytes))] H := hP
        have hD : va_D A [(q_this, .inr (1, [.ref q_bytes, .int v_length, .int v_place, .int y6, .int 2, .int y7])), (q_bytes, .inl (g.2.1, 120, .inl f_bytes))] := hD
        cases hres
        exact ret_v C0 hP hD hS dX1_nextDigits_127
    · have hres := it_f hres c10
      refine lv_iconst (v := 1) hx hb dX1_nextDigits_99 (by decide) ?_
      refine lv_goto (tgt := 104) hx hb dX1_nextDigits_100 (by decide) ?_
      refine lv_istore_n (lv' := [(2, .int 1), (0, .ref q_this), (1, .int x1)]) hx hb dX1_nextDigits_104 rfl hl (by decide) rfl (fun ls hl => ?_)
      refine lv_aload_n hx hb dX1_nextDigits_105 rfl (lv_at hl 1 rfl) ?_
      refine lv_aload_n hx hb dX1_nextDigits_106 rfl (lv_at hl 1 rfl) ?_
      refine va_get (D := g.1) (ci := 1) (v := .int y7) (C := RX1) (T := TX1) (N := 6) hx hb hts in_X1_nextDigits_X1 hown hK hP 0 rfl rfl 5 (by decide) (hts (.fieldLink RX1 37 "LightKeepers$Reader" "value" "I") (List.mem_of_getElem? (i := 1) rfl)) (fun _ h9 => h9) rfl dX1_nextDigits_107 ?_
      refine lv_bipush (v := 99) hx hb dX1_nextDigits_110 (by decide) ?_
      refine lv_icmp_gt (tgt := 119) hx hb dX1_nextDigits_112 (by decide) (fun c12 => ?_) (fun c12 => ?_)
      · have hres := it_t hres c12
        refine lv_iconst (v := 4) hx hb dX1_nextDigits_119 (by decide) ?_
        refine lv_goto (tgt := 124) hx hb dX1_nextDigits_120 (by decide) ?_
        refine va_put (D := g.1) (ci := 1) (v := .int 4) (ty := .int) (C := RX1) (T := TX1) (N := 6) hx hb hts in_X1_nextDigits_X1 tyX1 tyX1_ok nmX1 hown hK hP hD hS 0 rfl rfl 4 (by decide) (hts (.fieldLink RX1 34 "LightKeepers$Reader" "token" "I") (List.mem_of_getElem? (i := 10) rfl)) (fun _ h9 => h9) rfl (tyX1_ok 4 (by decide)) rfl rfl (Nat.le_of_ble_eq_true rfl) dX1_nextDigits_124 (fun H locs hP hD hS => ?_)
        have hP : va_P g.1 vwCl [(q_this, .inr (1, [.ref q_bytes, .int v_length, .int v_place, .int y6, .int 4, .int y7])), (q_bytes, .inl (g.2.1, 120, .inl f_bytes))] H := hP
        have hD : va_D A [(q_this, .inr (1, [.ref q_bytes, .int v_length, .int v_place, .int y6, .int 4, .int y7])), (q_bytes, .inl (g.2.1, 120, .inl f_bytes))] := hD
        cases hres
        exact ret_v C0 hP hD hS dX1_nextDigits_127
      · have hres := it_f hres c12
        refine lv_iload_n hx hb dX1_nextDigits_115 rfl (lv_at hl 0 rfl) ?_
        refine lv_if_eq (tgt := 123) hx hb dX1_nextDigits_116 (by decide) (fun c9 => absurd c9 (by decide)) (fun _ => ?_)
        refine lv_iconst (v := 4) hx hb dX1_nextDigits_119 (by decide) ?_
        refine lv_goto (tgt := 124) hx hb dX1_nextDigits_120 (by decide) ?_
        refine va_put (D := g.1) (ci := 1) (v := .int 4) (ty := .int) (C := RX1) (T := TX1) (N := 6) hx hb hts in_X1_nextDigits_X1 tyX1 tyX1_ok nmX1 hown hK hP hD hS 0 rfl rfl 4 (by decide) (hts (.fieldLink RX1 34 "LightKeepers$Reader" "token" "I") (List.mem_of_getElem? (i := 10) rfl)) (fun _ h9 => h9) rfl (tyX1_ok 4 (by decide)) rfl rfl (Nat.le_of_ble_eq_true rfl) dX1_nextDigits_124 (fun H locs hP hD hS => ?_)
        have hP : va_P g.1 vwCl [(q_this, .inr (1, [.ref q_bytes, .int v_length, .int v_place, .int y6, .int 4, .int y7])), (q_bytes, .inl (g.2.1, 120, .inl f_bytes))] H := hP
        have hD : va_D A [(q_this, .inr (1, [.ref q_bytes, .int v_length, .int v_place, .int y6, .int 4, .int y7])), (q_bytes, .inl (g.2.1, 120, .inl f_bytes))] := hD
        cases hres
        exact ret_v C0 hP hD hS dX1_nextDigits_127
set_option maxHeartbeats 4000000 in
set_option maxRecDepth 100000 in
theorem w_X1_nextLetters_L0 {p : Program} {l : Launch} {e : Env} {s : State} {m : MethodId} {args : Array Value} {below : List Frame} {meth : Method} {c : Code} {g : gG} {A : Nat → Prop} {q_this q_bytes : Nat} {v_length : Int32} {v_place : Int32} {v_token : Int32} {v_value : Int32} {f_bytes : Nat → Int32} {x1 : Int32} {u0 : Int32 × Int32 × Int32} {k : Int32 → Option (Int32 × Int32 × Int32)} {n : Nat} {v_end : Int32} {H : Heap} {locs : List Loc} {ls : Array Slot} (C0 : Cx p s m args meth c RX1 cX1_nextLetters 2 wsX1_nextLetters none g A)
    (hP : va_P g.1 vwCl [(q_this, .inr (1, [.ref q_bytes, .int v_length, .int v_place, .int v_end, .int v_token, .int v_value])), (q_bytes, .inl (g.2.1, 120, .inl f_bytes))] H) (hD : va_D A [(q_this, .inr (1, [.ref q_bytes, .int v_length, .int v_place, .int v_end, .int v_token, .int v_value])), (q_bytes, .inl (g.2.1, 120, .inl f_bytes))]) (hS : va_S A s.heap H locs) (hl : lv_has ls 2 [(0, .ref q_this), (1, .int x1)]) (hres : lp_X1_nextLetters_L0 v_length f_bytes k n v_end = some u0)
    (K : ∀ (v_end : Int32) (H : Heap) (locs : List Loc) (ls : Array Slot), va_P g.1 vwCl [(q_this, .inr (1, [.ref q_bytes, .int v_length, .int v_place, .int v_end, .int v_token, .int v_value])), (q_bytes, .inl (g.2.1, 120, .inl f_bytes))] H → va_D A [(q_this, .inr (1, [.ref q_bytes, .int v_length, .int v_place, .int v_end, .int v_token, .int v_value])), (q_bytes, .inl (g.2.1, 120, .inl f_bytes))] → va_S A s.heap H locs → lv_has ls 2 [(0, .ref q_this), (1, .int x1)] → k v_end = some u0 → W p l e rm_X1_nextLetters s m args below meth c H locs 0 0 (MQ below (gQv g [(q_this, .inr (1, [.ref q_bytes, .int v_length, .int v_place, .int u0.1, .int u0.2.1, .int u0.2.2])), (q_bytes, .inl (g.2.1, 120, .inl f_bytes))] A) args s 0 0 A) (F0 m 41 ls [])) :
    W p l e rm_X1_nextLetters s m args below meth c H locs 0 0 (MQ below (gQv g [(q_this, .inr (1, [.ref q_bytes, .int v_length, .int v_place, .int u0.1, .int u0.2.1, .int u0.2.2])), (q_bytes, .inl (g.2.1, 120, .inl f_bytes))] A) args s 0 0 A) (F0 m 0 ls []) := by
  obtain ⟨hx, hb, hml, hown, hts, hr, hlk, hN, hK, hF, hA⟩ := id C0
  induction n generalizing v_end H locs ls with
  | zero => cases hres
  | succ n ih =>
    unfold lp_X1_nextLetters_L0 at hres
    refine lv_aload_n hx hb dX1_nextLetters_0 rfl (lv_at hl 0 rfl) ?_
    refine va_get (D := g.1) (ci := 1) (v := .int v_end) (C := RX1) (T := TX1) (N := 6) hx hb hts in_X1_nextLetters_X1 hown hK hP 0 rfl rfl 3 (by decide) (hts (.fieldLink RX1 28 "LightKeepers$Reader" "end" "I") (List.mem_of_getElem? (i := 1) rfl)) (fun _ h9 => h9) rfl dX1_nextLetters_1 ?_
    refine lv_aload_n hx hb dX1_nextLetters_4 rfl (lv_at hl 0 rfl) ?_
    refine va_get (D := g.1) (ci := 1) (v := .int v_length) (C := RX1) (T := TX1) (N := 6) hx hb hts in_X1_nextLetters_X1 hown hK hP 0 rfl rfl 1 (by decide) (hts (.fieldLink RX1 15 "LightKeepers$Reader" "length" "I") (List.mem_of_getElem? (i := 2) rfl)) (fun _ h9 => h9) rfl dX1_nextLetters_5 ?_
    refine lv_icmp_ge (tgt := 41) hx hb dX1_nextLetters_8 (by decide) (fun c1 => ?_) (fun c1 => ?_)
    · have hres := it_t hres c1
      exact K _ _ _ _ hP hD hS hl hres
    · have hres := it_f hres c1
      refine lv_aload_n hx hb dX1_nextLetters_11 rfl (lv_at hl 0 rfl) ?_
      refine va_get (D := g.1) (ci := 1) (v := .ref q_bytes) (C := RX1) (T := TX1) (N := 6) hx hb hts in_X1_nextLetters_X1 hown hK hP 0 rfl rfl 0 (by decide) (hts (.fieldLink RX1 9 "LightKeepers$Reader" "bytes" "[I") (List.mem_of_getElem? (i := 3) rfl)) (fun _ h9 => h9) rfl dX1_nextLetters_12 ?_
      refine lv_aload_n hx hb dX1_nextLetters_15 rfl (lv_at hl 0 rfl) ?_
      refine va_get (D := g.1) (ci := 1) (v := .int v_end) (C := RX1) (T := TX1) (N := 6) hx hb hts in_X1_nextLetters_X1 hown hK hP 0 rfl rfl 3 (by decide) (hts (.fieldLink RX1 28 "LightKeepers$Reader" "end" "I") (List.mem_of_getElem? (i := 1) rfl)) (fun _ h9 => h9) rfl dX1_nextLetters_16 ?_
      obtain ⟨u2, hu2, hres⟩ := bd hres
      refine k_i C0 (run_SN (As := [.ref q_bytes, .int v_end]) (rest := []) C0 (c_X6_item l g (q_a0 := q_bytes) (n_a0 := 120) (f_a0 := f_bytes) (x1 := v_end) (u0 := u2) hu2 _) 2 gX1_nextLetters_X6_item_n82 rfl rfl rfl (List.mem_of_getElem? (i := 7) rfl) (List.mem_of_getElem? (i := 7) rfl) (List.mem_of_getElem? (i := 8) rfl) hd_X6_item ⟨Nat.le_of_ble_eq_true rfl, Nat.le_of_ble_eq_true rfl⟩ hP hD hS [1] rfl rfl rfl hl.1 rfl (Nat.le_of_ble_eq_true rfl) ⟨Nat.zero_le _, Nat.zero_le _⟩ dX1_nextLetters_19) hP hD hS [1] [0] rfl rfl rfl (by decide) (fun H locs hP hD hS => ?_)
      have hP : va_P g.1 vwCl [(q_this, .inr (1, [.ref q_bytes, .int v_length, .int v_place, .int v_end, .int v_token, .int v_value])), (q_bytes, .inl (g.2.1, 120, .inl f_bytes))] H := hP
      have hD : va_D A [(q_this, .inr (1, [.ref q_bytes, .int v_length, .int v_place, .int v_end, .int v_token, .int v_value])), (q_bytes, .inl (g.2.1, 120, .inl f_bytes))] := hD
      obtain ⟨u3, hu3, hres⟩ := bd hres
      refine k_i C0 (run_S (As := [.int u2]) (rest := []) C0 (c_X1_isLetter l g (x0 := u2) (u0 := u3) hu3 _) 1 gX1_nextLetters_X1_isLetter rfl rfl rfl hd_X1_isLetter ⟨Nat.le_of_ble_eq_true rfl, Nat.le_of_ble_eq_true rfl⟩ hP hD hS [] rfl rfl rfl hl.1 rfl (Nat.le_of_ble_eq_true rfl) ⟨Nat.zero_le _, Nat.zero_le _⟩ dX1_nextLetters_22) hP hD hS [] [0, 1] rfl rfl rfl (by decide) (fun H locs hP hD hS => ?_)
      have hP : va_P g.1 vwCl [(q_this, .inr (1, [.ref q_bytes, .int v_length, .int v_place, .int v_end, .int v_token, .int v_value])), (q_bytes, .inl (g.2.1, 120, .inl f_bytes))] H := hP
      have hD : va_D A [(q_this, .inr (1, [.ref q_bytes, .int v_length, .int v_place, .int v_end, .int v_token, .int v_value])), (q_bytes, .inl (g.2.1, 120, .inl f_bytes))] := hD
      refine lv_if_eq (tgt := 41) hx hb dX1_nextLetters_25 (by decide) (fun c4 => ?_) (fun c4 => ?_)
      · have hres := it_t hres c4
        exact K _ _ _ _ hP hD hS hl hres
      · have hres := it_f hres c4
        refine lv_aload_n hx hb dX1_nextLetters_28 rfl (lv_at hl 0 rfl) ?_
        refine lv_dup hx hb dX1_nextLetters_29 rfl ?_
        refine va_get (D := g.1) (ci := 1) (v := .int v_end) (C := RX1) (T := TX1) (N := 6) hx hb hts in_X1_nextLetters_X1 hown hK hP 0 rfl rfl 3 (by decide) (hts (.fieldLink RX1 28 "LightKeepers$Reader" "end" "I") (List.mem_of_getElem? (i := 1) rfl)) (fun _ h9 => h9) rfl dX1_nextLetters_30 ?_
        refine lv_iconst (v := 1) hx hb dX1_nextLetters_33 (by decide) ?_
        refine lv_iadd hx hb dX1_nextLetters_34 ?_
        refine va_put (D := g.1) (ci := 1) (v := .int (v_end + 1)) (ty := .int) (C := RX1) (T := TX1) (N := 6) hx hb hts in_X1_nextLetters_X1 tyX1 tyX1_ok nmX1 hown hK hP hD hS 0 rfl rfl 3 (by decide) (hts (.fieldLink RX1 28 "LightKeepers$Reader" "end" "I") (List.mem_of_getElem? (i := 1) rfl)) (fun _ h9 => h9) rfl (tyX1_ok 3 (by decide)) rfl rfl (Nat.le_of_ble_eq_true rfl) dX1_nextLetters_35 (fun H locs hP hD hS => ?_)
        have hP : va_P g.1 vwCl [(q_this, .inr (1, [.ref q_bytes, .int v_length, .int v_place, .int (v_end + 1), .int v_token, .int v_value])), (q_bytes, .inl (g.2.1, 120, .inl f_bytes))] H := hP
        have hD : va_D A [(q_this, .inr (1, [.ref q_bytes, .int v_length, .int v_place, .int (v_end + 1), .int v_token, .int v_value])), (q_bytes, .inl (g.2.1, 120, .inl f_bytes))] := hD
        refine lv_goto (tgt := 0) hx hb dX1_nextLetters_38 (by decide) ?_
        exact ih hP hD hS hl hres
set_option maxHeartbeats 4000000 in
set_option maxRecDepth 100000 in
theorem c_X1_nextLetters (l : Launch) (g : gG) {q_this q_bytes : Nat} {v_length : Int32} {v_place : Int32} {v_end : Int32} {v_token : Int32} {v_value : Int32} {f_bytes : Nat → Int32} {x1 : Int32} {u0 : Int32 × Int32 × Int32} (hres : f_X1_nextLetters v_length v_place v_end f_bytes x1 = some u0) : Cv l g yX1_nextLetters wsX1_nextLetters rm_X1_nextLetters [.ref q_this, .int x1] [(q_this, .inr (1, [.ref q_bytes, .int v_length, .int v_place, .int v_end, .int v_token, .int v_value])), (q_bytes, .inl (g.2.1, 120, .inl f_bytes))] [(q_this, .inr (1, [.ref q_bytes, .int v_length, .int v_place, .int u0.1, .int u0.2.1, .int u0.2.2])), (q_bytes, .inl (g.2.1, 120, .inl f_bytes))] := by
  intro sz
  refine gBody (Qf := fun A => gQv g [(q_this, .inr (1, [.ref q_bytes, .int v_length, .int v_place, .int u0.1, .int u0.2.1, .int u0.2.2])), (q_bytes, .inl (g.2.1, 120, .inl f_bytes))] A) (cc := cX1_nextLetters) (maxL := 2) (ret := none) (own := RX1) (by decide +kernel) rfl rfl (Nat.le_of_ble_eq_true rfl) ?_
  intro p e s m args below meth c A C0 H hS hD hP ls hl
  obtain ⟨hx, hb, hml, hown, hts, hr, hlk, hN, hK, hF, hA⟩ := id C0
  have hl : lv_has ls 2 [(0, .ref q_this), (1, .int x1)] := hl
  unfold f_X1_nextLetters at hres
  refine w_X1_nextLetters_L0 C0 hP hD hS hl hres (fun y5 H locs ls hP hD hS hl hres => ?_)
  refine lv_aload_n hx hb dX1_nextLetters_41 rfl (lv_at hl 0 rfl) ?_
  refine lv_aload_n hx hb dX1_nextLetters_42 rfl (lv_at hl 0 rfl) ?_
  refine va_get (D := g.1) (ci := 1) (v := .int y5) (C := RX1) (T := TX1) (N := 6) hx hb hts in_X1_nextLetters_X1 hown hK hP 0 rfl rfl 3 (by decide) (hts (.fieldLink RX1 28 "LightKeepers$Reader" "end" "I") (List.mem_of_getElem? (i := 1) rfl)) (fun _ h9 => h9) rfl dX1_nextLetters_43 ?_
  refine lv_aload_n hx hb dX1_nextLetters_46 rfl (lv_at hl 0 rfl) ?_
  refine va_get (D := g.1) (ci := 1) (v := .int v_place) (C := RX1) (T := TX1) (N := 6) hx hb hts in_X1_nextLetters_X1 hown hK hP 0 rfl rfl 2 (by decide) (hts (.fieldLink RX1 79 "LightKeepers$Reader" "place" "I") (List.mem_of_getElem? (i := 4) rfl)) (fun _ h9 => h9) rfl dX1_nextLetters_47 ?_
  refine lv_isub hx hb dX1_nextLetters_50 ?_
  refine lv_iconst (v := 1) hx hb dX1_nextLetters_51 (by decide) ?_
  refine lv_icmp_ne (tgt := 59) hx hb dX1_nextLetters_52 (by decide) (fun c6 => ?_) (fun c6 => ?_)
  · have hres := it_f hres c6
    refine lv_iconst (v := 4) hx hb dX1_nextLetters_59 (by decide) ?_
    refine va_put (D := g.1) (ci := 1) (v := .int 4) (ty := .int) (C := RX1) (T := TX1) (N := 6) hx hb hts in_X1_nextLetters_X1 tyX1 tyX1_ok nmX1 hown hK hP hD hS 0 rfl rfl 4 (by decide) (hts (.fieldLink RX1 34 "LightKeepers$Reader" "token" "I") (List.mem_of_getElem? (i := 5) rfl)) (fun _ h9 => h9) rfl (tyX1_ok 4 (by decide)) rfl rfl (Nat.le_of_ble_eq_true rfl) dX1_nextLetters_60 (fun H locs hP hD hS => ?_)
    have hP : va_P g.1 vwCl [(q_this, .inr (1, [.ref q_bytes, .int v_length, .int v_place, .int y5, .int 4, .int v_value])), (q_bytes, .inl (g.2.1, 120, .inl f_bytes))] H := hP
    have hD : va_D A [(q_this, .inr (1, [.ref q_bytes, .int v_length, .int v_place, .int y5, .int 4, .int v_value])), (q_bytes, .inl (g.2.1, 120, .inl f_bytes))] := hD
    refine lv_aload_n hx hb dX1_nextLetters_63 rfl (lv_at hl 0 rfl) ?_
    refine lv_iload_n hx hb dX1_nextLetters_64 rfl (lv_at hl 1 rfl) ?_
    refine va_put (D := g.1) (ci := 1) (v := .int x1) (ty := .int) (C := RX1) (T := TX1) (N := 6) hx hb hts in_X1_nextLetters_X1 tyX1 tyX1_ok nmX1 hown hK hP hD hS 0 rfl rfl 5 (by decide) (hts (.fieldLink RX1 37 "LightKeepers$Reader" "value" "I") (List.mem_of_getElem? (i := 6) rfl)) (fun _ h9 => h9) rfl (tyX1_ok 5 (by decide)) rfl rfl (Nat.le_of_ble_eq_true rfl) dX1_nextLetters_65 (fun H locs hP hD hS => ?_)
    have hP : va_P g.1 vwCl [(q_this, .inr (1, [.ref q_bytes, .int v_length, .int v_place, .int y5, .int 4, .int x1])), (q_bytes, .inl (g.2.1, 120, .inl f_bytes))] H := hP
    have hD : va_D A [(q_this, .inr (1, [.ref q_bytes, .int v_length, .int v_place, .int y5, .int 4, .int x1])), (q_bytes, .inl (g.2.1, 120, .inl f_bytes))] := hD
    cases hres
    exact ret_v C0 hP hD hS dX1_nextLetters_68
  · have hres := it_t hres c6
    refine lv_iconst (v := 1) hx hb dX1_nextLetters_55 (by decide) ?_
    refine lv_goto (tgt := 60) hx hb dX1_nextLetters_56 (by decide) ?_
    refine va_put (D := g.1) (ci := 1) (v := .int 1) (ty := .int) (C := RX1) (T := TX1) (N := 6) hx hb hts in_X1_nextLetters_X1 tyX1 tyX1_ok nmX1 hown hK hP hD hS 0 rfl rfl 4 (by decide) (hts (.fieldLink RX1 34 "LightKeepers$Reader" "token" "I") (List.mem_of_getElem? (i := 5) rfl)) (fun _ h9 => h9) rfl (tyX1_ok 4 (by decide)) rfl rfl (Nat.le_of_ble_eq_true rfl) dX1_nextLetters_60 (fun H locs hP hD hS => ?_)
    have hP : va_P g.1 vwCl [(q_this, .inr (1, [.ref q_bytes, .int v_length, .int v_place, .int y5, .int 1, .int v_value])), (q_bytes, .inl (g.2.1, 120, .inl f_bytes))] H := hP
    have hD : va_D A [(q_this, .inr (1, [.ref q_bytes, .int v_length, .int v_place, .int y5, .int 1, .int v_value])), (q_bytes, .inl (g.2.1, 120, .inl f_bytes))] := hD
    refine lv_aload_n hx hb dX1_nextLetters_63 rfl (lv_at hl 0 rfl) ?_
    refine lv_iload_n hx hb dX1_nextLetters_64 rfl (lv_at hl 1 rfl) ?_
    refine va_put (D := g.1) (ci := 1) (v := .int x1) (ty := .int) (C := RX1) (T := TX1) (N := 6) hx hb hts in_X1_nextLetters_X1 tyX1 tyX1_ok nmX1 hown hK hP hD hS 0 rfl rfl 5 (by decide) (hts (.fieldLink RX1 37 "LightKeepers$Reader" "value" "I") (List.mem_of_getElem? (i := 6) rfl)) (fun _ h9 => h9) rfl (tyX1_ok 5 (by decide)) rfl rfl (Nat.le_of_ble_eq_true rfl) dX1_nextLetters_65 (fun H locs hP hD hS => ?_)
    have hP : va_P g.1 vwCl [(q_this, .inr (1, [.ref q_bytes, .int v_length, .int v_place, .int y5, .int 1, .int x1])), (q_bytes, .inl (g.2.1, 120, .inl f_bytes))] H := hP
    have hD : va_D A [(q_this, .inr (1, [.ref q_bytes, .int v_length, .int v_place, .int y5, .int 1, .int x1])), (q_bytes, .inl (g.2.1, 120, .inl f_bytes))] := hD
    cases hres
    exact ret_v C0 hP hD hS dX1_nextLetters_68
set_option maxHeartbeats 4000000 in
set_option maxRecDepth 100000 in
theorem w_X1_next_L8 {p : Program} {l : Launch} {e : Env} {s : State} {m : MethodId} {args : Array Value} {below : List Frame} {meth : Method} {c : Code} {g : gG} {A : Nat → Prop} {q_this q_bytes : Nat} {v_length : Int32} {v_end : Int32} {v_token : Int32} {v_value : Int32} {f_bytes : Nat → Int32} {u0 : Int32 × Int32 × Int32 × Int32} {k : Int32 → Option (Int32 × Int32 × Int32 × Int32)} {n : Nat} {v_place : Int32} {H : Heap} {locs : List Loc} {ls : Array Slot} (C0 : Cx p s m args meth c RX1 cX1_next 2 wsX1_next none g A)
    (hP : va_P g.1 vwCl [(q_this, .inr (1, [.ref q_bytes, .int v_length, .int v_place, .int v_end, .int v_token, .int v_value])), (q_bytes, .inl (g.2.1, 120, .inl f_bytes))] H) (hD : va_D A [(q_this, .inr (1, [.ref q_bytes, .int v_length, .int v_place, .int v_end, .int v_token, .int v_value])), (q_bytes, .inl (g.2.1, 120, .inl f_bytes))]) (hS : va_S A s.heap H locs) (hl : lv_has ls 2 [(0, .ref q_this)]) (hres : lp_X1_next_L8 v_length f_bytes k n v_place = some u0)
    (K : ∀ (v_place : Int32) (H : Heap) (locs : List Loc) (ls : Array Slot), va_P g.1 vwCl [(q_this, .inr (1, [.ref q_bytes, .int v_length, .int v_place, .int v_end, .int v_token, .int v_value])), (q_bytes, .inl (g.2.1, 120, .inl f_bytes))] H → va_D A [(q_this, .inr (1, [.ref q_bytes, .int v_length, .int v_place, .int v_end, .int v_token, .int v_value])), (q_bytes, .inl (g.2.1, 120, .inl f_bytes))] → va_S A s.heap H locs → lv_has ls 2 [(0, .ref q_this)] → k v_place = some u0 → W p l e rm_X1_next s m args below meth c H locs 0 0 (MQ below (gQv g [(q_this, .inr (1, [.ref q_bytes, .int v_length, .int u0.1, .int u0.2.1, .int u0.2.2.1, .int u0.2.2.2])), (q_bytes, .inl (g.2.1, 120, .inl f_bytes))] A) args s 0 0 A) (F0 m 48 ls [])) :
    W p l e rm_X1_next s m args below meth c H locs 0 0 (MQ below (gQv g [(q_this, .inr (1, [.ref q_bytes, .int v_length, .int u0.1, .int u0.2.1, .int u0.2.2.1, .int u0.2.2.2])), (q_bytes, .inl (g.2.1, 120, .inl f_bytes))] A) args s 0 0 A) (F0 m 8 ls []) := by
  obtain ⟨hx, hb, hml, hown, hts, hr, hlk, hN, hK, hF, hA⟩ := id C0
  induction n generalizing v_place H locs ls with
  | zero => cases hres
  | succ n ih =>
    unfold lp_X1_next_L8 at hres
    refine lv_aload_n hx hb dX1_next_8 rfl (lv_at hl 0 rfl) ?_
    refine va_get (D := g.1) (ci := 1) (v := .int v_place) (C := RX1) (T := TX1) (N := 6) hx hb hts in_X1_next_X1 hown hK hP 0 rfl rfl 2 (by decide) (hts (.fieldLink RX1 79 "LightKeepers$Reader" "place" "I") (List.mem_of_getElem? (i := 2) rfl)) (fun _ h9 => h9) rfl dX1_next_9 ?_
    refine lv_aload_n hx hb dX1_next_12 rfl (lv_at hl 0 rfl) ?_
    refine va_get (D := g.1) (ci := 1) (v := .int v_length) (C := RX1) (T := TX1) (N := 6) hx hb hts in_X1_next_X1 hown hK hP 0 rfl rfl 1 (by decide) (hts (.fieldLink RX1 15 "LightKeepers$Reader" "length" "I") (List.mem_of_getElem? (i := 3) rfl)) (fun _ h9 => h9) rfl dX1_next_13 ?_
    refine lv_icmp_ge (tgt := 48) hx hb dX1_next_16 (by decide) (fun c1 => ?_) (fun c1 => ?_)
    · have hres := it_t hres c1
      exact K _ _ _ _ hP hD hS hl hres
    · have hres := it_f hres c1
      refine lv_aload_n hx hb dX1_next_19 rfl (lv_at hl 0 rfl) ?_
      refine va_get (D := g.1) (ci := 1) (v := .ref q_bytes) (C := RX1) (T := TX1) (N := 6) hx hb hts in_X1_next_X1 hown hK hP 0 rfl rfl 0 (by decide) (hts (.fieldLink RX1 9 "LightKeepers$Reader" "bytes" "[I") (List.mem_of_getElem? (i := 4) rfl)) (fun _ h9 => h9) rfl dX1_next_20 ?_
      refine lv_aload_n hx hb dX1_next_23 rfl (lv_at hl 0 rfl) ?_
      refine va_get (D := g.1) (ci := 1) (v := .int v_place) (C := RX1) (T := TX1) (N := 6) hx hb hts in_X1_next_X1 hown hK hP 0 rfl rfl 2 (by decide) (hts (.fieldLink RX1 79 "LightKeepers$Reader" "place" "I") (List.mem_of_getElem? (i := 2) rfl)) (fun _ h9 => h9) rfl dX1_next_24 ?_
      obtain ⟨u2, hu2, hres⟩ := bd hres
      refine k_i C0 (run_SN (As := [.ref q_bytes, .int v_place]) (rest := []) C0 (c_X6_item l g (q_a0 := q_bytes) (n_a0 := 120) (f_a0 := f_bytes) (x1 := v_place) (u0 := u2) hu2 _) 2 gX1_next_X6_item_n82 rfl rfl rfl (List.mem_of_getElem? (i := 7) rfl) (List.mem_of_getElem? (i := 6) rfl) (List.mem_of_getElem? (i := 7) rfl) hd_X6_item ⟨Nat.le_of_ble_eq_true rfl, Nat.le_of_ble_eq_true rfl⟩ hP hD hS [1] rfl rfl rfl hl.1 rfl (Nat.le_of_ble_eq_true rfl) ⟨Nat.zero_le _, Nat.zero_le _⟩ dX1_next_27) hP hD hS [1] [0] rfl rfl rfl (by decide) (fun H locs hP hD hS => ?_)
      have hP : va_P g.1 vwCl [(q_this, .inr (1, [.ref q_bytes, .int v_length, .int v_place, .int v_end, .int v_token, .int v_value])), (q_bytes, .inl (g.2.1, 120, .inl f_bytes))] H := hP
      have hD : va_D A [(q_this, .inr (1, [.ref q_bytes, .int v_length, .int v_place, .int v_end, .int v_token, .int v_value])), (q_bytes, .inl (g.2.1, 120, .inl f_bytes))] := hD
      refine lv_bipush (v := 32) hx hb dX1_next_30 (by decide) ?_
      refine lv_icmp_ne (tgt := 48) hx hb dX1_next_32 (by decide) (fun c3 => ?_) (fun c3 => ?_)
      · have hres := it_f hres c3
        exact K _ _ _ _ hP hD hS hl hres
      · have hres := it_t hres c3
        refine lv_aload_n hx hb dX1_next_35 rfl (lv_at hl 0 rfl) ?_
        refine lv_dup hx hb dX1_next_36 rfl ?_
        refine va_get (D := g.1) (ci := 1) (v := .int v_place) (C := RX1) (T := TX1) (N := 6) hx hb hts in_X1_next_X1 hown hK hP 0 rfl rfl 2 (by decide) (hts (.fieldLink RX1 79 "LightKeepers$Reader" "place" "I") (List.mem_of_getElem? (i := 2) rfl)) (fun _ h9 => h9) rfl dX1_next_37 ?_
        refine lv_iconst (v := 1) hx hb dX1_next_40 (by decide) ?_
        refine lv_iadd hx hb dX1_next_41 ?_
        refine va_put (D := g.1) (ci := 1) (v := .int (v_place + 1)) (ty := .int) (C := RX1) (T := TX1) (N := 6) hx hb hts in_X1_next_X1 tyX1 tyX1_ok nmX1 hown hK hP hD hS 0 rfl rfl 2 (by decide) (hts (.fieldLink RX1 79 "LightKeepers$Reader" "place" "I") (List.mem_of_getElem? (i := 2) rfl)) (fun _ h9 => h9) rfl (tyX1_ok 2 (by decide)) rfl rfl (Nat.le_of_ble_eq_true rfl) dX1_next_42 (fun H locs hP hD hS => ?_)
        have hP : va_P g.1 vwCl [(q_this, .inr (1, [.ref q_bytes, .int v_length, .int (v_place + 1), .int v_end, .int v_token, .int v_value])), (q_bytes, .inl (g.2.1, 120, .inl f_bytes))] H := hP
        have hD : va_D A [(q_this, .inr (1, [.ref q_bytes, .int v_length, .int (v_place + 1), .int v_end, .int v_token, .int v_value])), (q_bytes, .inl (g.2.1, 120, .inl f_bytes))] := hD
        refine lv_goto (tgt := 8) hx hb dX1_next_45 (by decide) ?_
        exact ih hP hD hS hl hres
set_option maxHeartbeats 4000000 in
set_option maxRecDepth 100000 in
theorem c_X1_next (l : Launch) (g : gG) {q_this q_bytes : Nat} {v_length : Int32} {v_place : Int32} {v_end : Int32} {v_token : Int32} {v_value : Int32} {f_bytes : Nat → Int32} {u0 : Int32 × Int32 × Int32 × Int32} (hres : f_X1_next v_length v_end v_value f_bytes = some u0) : Cv l g yX1_next wsX1_next rm_X1_next [.ref q_this] [(q_this, .inr (1, [.ref q_bytes, .int v_length, .int v_place, .int v_end, .int v_token, .int v_value])), (q_bytes, .inl (g.2.1, 120, .inl f_bytes))] [(q_this, .inr (1, [.ref q_bytes, .int v_length, .int u0.1, .int u0.2.1, .int u0.2.2.1, .int u0.2.2.2])), (q_bytes, .inl (g.2.1, 120, .inl f_bytes))] := by
  intro sz
  refine gBody (Qf := fun A => gQv g [(q_this, .inr (1, [.ref q_bytes, .int v_length, .int u0.1, .int u0.2.1, .int u0.2.2.1, .int u0.2.2.2])), (q_bytes, .inl (g.2.1, 120, .inl f_bytes))] A) (cc := cX1_next) (maxL := 2) (ret := none) (own := RX1) (by decide +kernel) rfl rfl (Nat.le_of_ble_eq_true rfl) ?_
  intro p e s m args below meth c A C0 H hS hD hP ls hl
  obtain ⟨hx, hb, hml, hown, hts, hr, hlk, hN, hK, hF, hA⟩ := id C0
  have hl : lv_has ls 2 [(0, .ref q_this)] := hl
  unfold f_X1_next at hres
  refine lv_aload_n hx hb dX1_next_0 rfl (lv_at hl 0 rfl) ?_
  refine lv_aload_n hx hb dX1_next_1 rfl (lv_at hl 0 rfl) ?_
  refine va_get (D := g.1) (ci := 1) (v := .int v_end) (C := RX1) (T := TX1) (N := 6) hx hb hts in_X1_next_X1 hown hK hP 0 rfl rfl 3 (by decide) (hts (.fieldLink RX1 28 "LightKeepers$Reader" "end" "I") (List.mem_of_getElem? (i := 1) rfl)) (fun _ h9 => h9) rfl dX1_next_2 ?_
  refine va_put (D := g.1) (ci := 1) (v := .int v_end) (ty := .int) (C := RX1) (T := TX1) (N := 6) hx hb hts in_X1_next_X1 tyX1 tyX1_ok nmX1 hown hK hP hD hS 0 rfl rfl 2 (by decide) (hts (.fieldLink RX1 79 "LightKeepers$Reader" "place" "I") (List.mem_of_getElem? (i := 2) rfl)) (fun _ h9 => h9) rfl (tyX1_ok 2 (by decide)) rfl rfl (Nat.le_of_ble_eq_true rfl) dX1_next_5 (fun H locs hP hD hS => ?_)
  have hP : va_P g.1 vwCl [(q_this, .inr (1, [.ref q_bytes, .int v_length, .int v_end, .int v_end, .int v_token, .int v_value])), (q_bytes, .inl (g.2.1, 120, .inl f_bytes))] H := hP
  have hD : va_D A [(q_this, .inr (1, [.ref q_bytes, .int v_length, .int v_end, .int v_end, .int v_token, .int v_value])), (q_bytes, .inl (g.2.1, 120, .inl f_bytes))] := hD
  refine w_X1_next_L8 C0 hP hD hS hl hres (fun y4 H locs ls hP hD hS hl hres => ?_)
  refine lv_aload_n hx hb dX1_next_48 rfl (lv_at hl 0 rfl) ?_
  refine lv_aload_n hx hb dX1_next_49 rfl (lv_at hl 0 rfl) ?_
  refine va_get (D := g.1) (ci := 1) (v := .int y4) (C := RX1) (T := TX1) (N := 6) hx hb hts in_X1_next_X1 hown hK hP 0 rfl rfl 2 (by decide) (hts (.fieldLink RX1 79 "LightKeepers$Reader" "place" "I") (List.mem_of_getElem? (i := 2) rfl)) (fun _ h9 => h9) rfl dX1_next_50 ?_
  refine lv_iconst (v := 1) hx hb dX1_next_53 (by decide) ?_
  refine lv_iadd hx hb dX1_next_54 ?_
  refine va_put (D := g.1) (ci := 1) (v := .int (y4 + 1)) (ty := .int) (C := RX1) (T := TX1) (N := 6) hx hb hts in_X1_next_X1 tyX1 tyX1_ok nmX1 hown hK hP hD hS 0 rfl rfl 3 (by decide) (hts (.fieldLink RX1 28 "LightKeepers$Reader" "end" "I") (List.mem_of_getElem? (i := 1) rfl)) (fun _ h9 => h9) rfl (tyX1_ok 3 (by decide)) rfl rfl (Nat.le_of_ble_eq_true rfl) dX1_next_55 (fun H locs hP hD hS => ?_)
  have hP : va_P g.1 vwCl [(q_this, .inr (1, [.ref q_bytes, .int v_length, .int y4, .int (y4 + 1), .int v_token, .int v_value])), (q_bytes, .inl (g.2.1, 120, .inl f_bytes))] H := hP
  have hD : va_D A [(q_this, .inr (1, [.ref q_bytes, .int v_length, .int y4, .int (y4 + 1), .int v_token, .int v_value])), (q_bytes, .inl (g.2.1, 120, .inl f_bytes))] := hD
  refine lv_aload_n hx hb dX1_next_58 rfl (lv_at hl 0 rfl) ?_
  refine va_get (D := g.1) (ci := 1) (v := .ref q_bytes) (C := RX1) (T := TX1) (N := 6) hx hb hts in_X1_next_X1 hown hK hP 0 rfl rfl 0 (by decide) (hts (.fieldLink RX1 9 "LightKeepers$Reader" "bytes" "[I") (List.mem_of_getElem? (i := 4) rfl)) (fun _ h9 => h9) rfl dX1_next_59 ?_
  refine lv_aload_n hx hb dX1_next_62 rfl (lv_at hl 0 rfl) ?_
  refine va_get (D := g.1) (ci := 1) (v := .int y4) (C := RX1) (T := TX1) (N := 6) hx hb hts in_X1_next_X1 hown hK hP 0 rfl rfl 2 (by decide) (hts (.fieldLink RX1 79 "LightKeepers$Reader" "place" "I") (List.mem_of_getElem? (i := 2) rfl)) (fun _ h9 => h9) rfl dX1_next_63 ?_
  obtain ⟨u5, hu5, hres⟩ := bd hres
  refine k_i C0 (run_SN (As := [.ref q_bytes, .int y4]) (rest := []) C0 (c_X6_item l g (q_a0 := q_bytes) (n_a0 := 120) (f_a0 := f_bytes) (x1 := y4) (u0 := u5) hu5 _) 2 gX1_next_X6_item_n82 rfl rfl rfl (List.mem_of_getElem? (i := 7) rfl) (List.mem_of_getElem? (i := 6) rfl) (List.mem_of_getElem? (i := 7) rfl) hd_X6_item ⟨Nat.le_of_ble_eq_true rfl, Nat.le_of_ble_eq_true rfl⟩ hP hD hS [1] rfl rfl rfl hl.1 rfl (Nat.le_of_ble_eq_true rfl) ⟨Nat.zero_le _, Nat.zero_le _⟩ dX1_next_66) hP hD hS [1] [0] rfl rfl rfl (by decide) (fun H locs hP hD hS => ?_)
  have hP : va_P g.1 vwCl [(q_this, .inr (1, [.ref q_bytes, .int v_length, .int y4, .int (y4 + 1), .int v_token, .int v_value])), (q_bytes, .inl (g.2.1, 120, .inl f_bytes))] H := hP
  have hD : va_D A [(q_this, .inr (1, [.ref q_bytes, .int v_length, .int y4, .int (y4 + 1), .int v_token, .int v_value])), (q_bytes, .inl (g.2.1, 120, .inl f_bytes))] := hD
  refine lv_istore_n (lv' := [(1, .int u5), (0, .ref q_this)]) hx hb dX1_next_69 rfl hl (by decide) rfl (fun ls hl => ?_)
  refine lv_aload_n hx hb dX1_next_70 rfl (lv_at hl 1 rfl) ?_
  refine va_get (D := g.1) (ci := 1) (v := .int y4) (C := RX1) (T := TX1) (N := 6) hx hb hts in_X1_next_X1 hown hK hP 0 rfl rfl 2 (by decide) (hts (.fieldLink RX1 79 "LightKeepers$Reader" "place" "I") (List.mem_of_getElem? (i := 2) rfl)) (fun _ h9 => h9) rfl dX1_next_71 ?_
  refine lv_aload_n hx hb dX1_next_74 rfl (lv_at hl 1 rfl) ?_
  refine va_get (D := g.1) (ci := 1) (v := .int v_length) (C := RX1) (T := TX1) (N := 6) hx hb hts in_X1_next_X1 hown hK hP 0 rfl rfl 1 (by decide) (hts (.fieldLink RX1 15 "LightKeepers$Reader" "length" "I") (List.mem_of_getElem? (i := 3) rfl)) (fun _ h9 => h9) rfl dX1_next_75 ?_
  refine lv_icmp_lt (tgt := 89) hx hb dX1_next_78 (by decide) (fun c6 => ?_) (fun c6 => ?_)
  · have hres := it_t hres c6
    refine lv_iload_n hx hb dX1_next_89 rfl (lv_at hl 0 rfl) ?_
    obtain ⟨u7, hu7, hres⟩ := bd hres
    refine k_i C0 (run_S (As := [.int u5]) (rest := []) C0 (c_X1_isLetter l g (x0 := u5) (u0 := u7) hu7 _) 1 gX1_next_X1_isLetter rfl rfl rfl hd_X1_isLetter ⟨Nat.le_of_ble_eq_true rfl, Nat.le_of_ble_eq_true rfl⟩ hP hD hS [] rfl rfl rfl hl.1 rfl (Nat.le_of_ble_eq_true rfl) ⟨Nat.zero_le _, Nat.zero_le _⟩ dX1_next_90) hP hD hS [] [0, 1] rfl rfl rfl (by decide) (fun H locs hP hD hS => ?_)
    have hP : va_P g.1 vwCl [(q_this, .inr (1, [.ref q_bytes, .int v_length, .int y4, .int (y4 + 1), .int v_token, .int v_value])), (q_bytes, .inl (g.2.1, 120, .inl f_bytes))] H := hP
    have hD : va_D A [(q_this, .inr (1, [.ref q_bytes, .int v_length, .int y4, .int (y4 + 1), .int v_token, .int v_value])), (q_bytes, .inl (g.2.1, 120, .inl f_bytes))] := hD
    refine lv_if_eq (tgt := 104) hx hb dX1_next_93 (by decide) (fun c8 => ?_) (fun c8 => ?_)
    · have hres := it_t hres c8
      refine lv_iload_n hx hb dX1_next_104 rfl (lv_at hl 0 rfl) ?_
      obtain ⟨u9, hu9, hres⟩ := bd hres
      refine k_i C0 (run_S (As := [.int u5]) (rest := []) C0 (c_X1_isDigit l g (x0 := u5) (u0 := u9) hu9 _) 1 gX1_next_X1_isDigit rfl rfl rfl hd_X1_isDigit ⟨Nat.le_of_ble_eq_true rfl, Nat.le_of_ble_eq_true rfl⟩ hP hD hS [] rfl rfl rfl hl.1 rfl (Nat.le_of_ble_eq_true rfl) ⟨Nat.zero_le _, Nat.zero_le _⟩ dX1_next_105) hP hD hS [] [0, 1] rfl rfl rfl (by decide) (fun H locs hP hD hS => ?_)
      have hP : va_P g.1 vwCl [(q_this, .inr (1, [.ref q_bytes, .int v_length, .int y4, .int (y4 + 1), .int v_token, .int v_value])), (q_bytes, .inl (g.2.1, 120, .inl f_bytes))] H := hP
      have hD : va_D A [(q_this, .inr (1, [.ref q_bytes, .int v_length, .int y4, .int (y4 + 1), .int v_token, .int v_value])), (q_bytes, .inl (g.2.1, 120, .inl f_bytes))] := hD
      refine lv_if_eq (tgt := 119) hx hb dX1_next_108 (by decide) (fun c10 => ?_) (fun c10 => ?_)
      · have hres := it_t hres c10
        refine lv_aload_n hx hb dX1_next_119 rfl (lv_at hl 1 rfl) ?_
        refine lv_iload_n hx hb dX1_next_120 rfl (lv_at hl 0 rfl) ?_
        refine lv_bipush (v := 59) hx hb dX1_next_121 (by decide) ?_
        refine lv_icmp_ne (tgt := 130) hx hb dX1_next_123 (by decide) (fun c11 => ?_) (fun c11 => ?_)
        · have hres := it_f hres c11
          refine lv_iconst (v := 4) hx hb dX1_next_130 (by decide) ?_
          refine va_put (D := g.1) (ci := 1) (v := .int 4) (ty := .int) (C := RX1) (T := TX1) (N := 6) hx hb hts in_X1_next_X1 tyX1 tyX1_ok nmX1 hown hK hP hD hS 0 rfl rfl 4 (by decide) (hts (.fieldLink RX1 34 "LightKeepers$Reader" "token" "I") (List.mem_of_getElem? (i := 5) rfl)) (fun _ h9 => h9) rfl (tyX1_ok 4 (by decide)) rfl rfl (Nat.le_of_ble_eq_true rfl) dX1_next_131 (fun H locs hP hD hS => ?_)
          have hP : va_P g.1 vwCl [(q_this, .inr (1, [.ref q_bytes, .int v_length, .int y4, .int (y4 + 1), .int 4, .int v_value])), (q_bytes, .inl (g.2.1, 120, .inl f_bytes))] H := hP
          have hD : va_D A [(q_this, .inr (1, [.ref q_bytes, .int v_length, .int y4, .int (y4 + 1), .int 4, .int v_value])), (q_bytes, .inl (g.2.1, 120, .inl f_bytes))] := hD
          cases hres
          exact ret_v C0 hP hD hS dX1_next_134
        · have hres := it_t hres c11
          refine lv_iconst (v := 3) hx hb dX1_next_126 (by decide) ?_
          refine lv_goto (tgt := 131) hx hb dX1_next_127 (by decide) ?_
          refine va_put (D := g.1) (ci := 1) (v := .int 3) (ty := .int) (C := RX1) (T := TX1) (N := 6) hx hb hts in_X1_next_X1 tyX1 tyX1_ok nmX1 hown hK hP hD hS 0 rfl rfl 4 (by decide) (hts (.fieldLink RX1 34 "LightKeepers$Reader" "token" "I") (List.mem_of_getElem? (i := 5) rfl)) (fun _ h9 => h9) rfl (tyX1_ok 4 (by decide)) rfl rfl (Nat.le_of_ble_eq_true rfl) dX1_next_131 (fun H locs hP hD hS => ?_)
          have hP : va_P g.1 vwCl [(q_this, .inr (1, [.ref q_bytes, .int v_length, .int y4, .int (y4 + 1), .int 3, .int v_value])), (q_bytes, .inl (g.2.1, 120, .inl f_bytes))] H := hP
          have hD : va_D A [(q_this, .inr (1, [.ref q_bytes, .int v_length, .int y4, .int (y4 + 1), .int 3, .int v_value])), (q_bytes, .inl (g.2.1, 120, .inl f_bytes))] := hD
          cases hres
          exact ret_v C0 hP hD hS dX1_next_134
      · have hres := it_f hres c10
        refine lv_aload_n hx hb dX1_next_111 rfl (lv_at hl 1 rfl) ?_
        refine lv_iload_n hx hb dX1_next_112 rfl (lv_at hl 0 rfl) ?_
        obtain ⟨u12, hu12, hres⟩ := bd hres
        refine k_v C0 (run_V (As := [.int u5]) (rest := []) C0 (c_X1_nextDigits l g (q_this := q_this) (q_bytes := q_bytes) (v_length := v_length) (v_place := y4) (v_end := (y4 + 1)) (v_token := v_token) (v_value := v_value) (f_bytes := f_bytes) (x1 := u5) (u0 := u12) hu12 _) 1 gX1_next_X1_nextDigits rfl rfl rfl hd_X1_nextDigits ⟨Nat.le_of_ble_eq_true rfl, Nat.le_of_ble_eq_true rfl⟩ hP hD hS [0, 1] rfl rfl 0 1 rfl rfl rfl hl.1 rfl (Nat.le_of_ble_eq_true rfl) ⟨Nat.zero_le _, Nat.zero_le _⟩ dX1_next_113) hP hD hS [0, 1] [] rfl rfl rfl (by decide) (fun H locs hP hD hS => ?_)
        have hP : va_P g.1 vwCl [(q_this, .inr (1, [.ref q_bytes, .int v_length, .int y4, .int u12.1, .int u12.2.1, .int u12.2.2])), (q_bytes, .inl (g.2.1, 120, .inl f_bytes))] H := hP
        have hD : va_D A [(q_this, .inr (1, [.ref q_bytes, .int v_length, .int y4, .int u12.1, .int u12.2.1, .int u12.2.2])), (q_bytes, .inl (g.2.1, 120, .inl f_bytes))] := hD
        refine lv_goto (tgt := 134) hx hb dX1_next_116 (by decide) ?_
        cases hres
        exact ret_v C0 hP hD hS dX1_next_134
    · have hres := it_f hres c8
      refine lv_aload_n hx hb dX1_next_96 rfl (lv_at hl 1 rfl) ?_
      refine lv_iload_n hx hb dX1_next_97 rfl (lv_at hl 0 rfl) ?_
      obtain ⟨u13, hu13, hres⟩ := bd hres
      refine k_v C0 (run_V (As := [.int u5]) (rest := []) C0 (c_X1_nextLetters l g (q_this := q_this) (q_bytes := q_bytes) (v_length := v_length) (v_place := y4) (v_end := (y4 + 1)) (v_token := v_token) (v_value := v_value) (f_bytes := f_bytes) (x1 := u5) (u0 := u13) hu13 _) 1 gX1_next_X1_nextLetters rfl rfl rfl hd_X1_nextLetters ⟨Nat.le_of_ble_eq_true rfl, Nat.le_of_ble_eq_true rfl⟩ hP hD hS [0, 1] rfl rfl 0 1 rfl rfl rfl hl.1 rfl (Nat.le_of_ble_eq_true rfl) ⟨Nat.zero_le _, Nat.zero_le _⟩ dX1_next_98) hP hD hS [0, 1] [] rfl rfl rfl (by decide) (fun H locs hP hD hS => ?_)
      have hP : va_P g.1 vwCl [(q_this, .inr (1, [.ref q_bytes, .int v_length, .int y4, .int u13.1, .int u13.2.1, .int u13.2.2])), (q_bytes, .inl (g.2.1, 120, .inl f_bytes))] H := hP
      have hD : va_D A [(q_this, .inr (1, [.ref q_bytes, .int v_length, .int y4, .int u13.1, .int u13.2.1, .int u13.2.2])), (q_bytes, .inl (g.2.1, 120, .inl f_bytes))] := hD
      refine lv_goto (tgt := 134) hx hb dX1_next_101 (by decide) ?_
      cases hres
      exact ret_v C0 hP hD hS dX1_next_134
  · have hres := it_f hres c6
    refine lv_aload_n hx hb dX1_next_81 rfl (lv_at hl 1 rfl) ?_
    refine lv_iconst (v := 0) hx hb dX1_next_82 (by decide) ?_
    refine va_put (D := g.1) (ci := 1) (v := .int 0) (ty := .int) (C := RX1) (T := TX1) (N := 6) hx hb hts in_X1_next_X1 tyX1 tyX1_ok nmX1 hown hK hP hD hS 0 rfl rfl 4 (by decide) (hts (.fieldLink RX1 34 "LightKeepers$Reader" "token" "I") (List.mem_of_getElem? (i := 5) rfl)) (fun _ h9 => h9) rfl (tyX1_ok 4 (by decide)) rfl rfl (Nat.le_of_ble_eq_true rfl) dX1_next_83 (fun H locs hP hD hS => ?_)
    have hP : va_P g.1 vwCl [(q_this, .inr (1, [.ref q_bytes, .int v_length, .int y4, .int (y4 + 1), .int 0, .int v_value])), (q_bytes, .inl (g.2.1, 120, .inl f_bytes))] H := hP
    have hD : va_D A [(q_this, .inr (1, [.ref q_bytes, .int v_length, .int y4, .int (y4 + 1), .int 0, .int v_value])), (q_bytes, .inl (g.2.1, 120, .inl f_bytes))] := hD
    refine lv_goto (tgt := 134) hx hb dX1_next_86 (by decide) ?_
    cases hres
    exact ret_v C0 hP hD hS dX1_next_134
set_option maxHeartbeats 4000000 in
set_option maxRecDepth 100000 in
theorem c_X1_readNumber (l : Launch) (g : gG) {q_this q_bytes : Nat} {v_length : Int32} {v_place : Int32} {v_end : Int32} {v_token : Int32} {v_value : Int32} {f_bytes : Nat → Int32} {x1 : Int32} {x2 : Int32} {u0 : Int32 × Int32 × Int32 × Int32 × Int32} (hres : f_X1_readNumber v_length v_end v_value f_bytes x1 x2 = some u0) : Ci l g yX1_readNumber wsX1_readNumber rm_X1_readNumber [.ref q_this, .int x1, .int x2] [(q_this, .inr (1, [.ref q_bytes, .int v_length, .int v_place, .int v_end, .int v_token, .int v_value])), (q_bytes, .inl (g.2.1, 120, .inl f_bytes))] [(q_this, .inr (1, [.ref q_bytes, .int v_length, .int u0.2.1, .int u0.2.2.1, .int u0.2.2.2.1, .int u0.2.2.2.2])), (q_bytes, .inl (g.2.1, 120, .inl f_bytes))] u0.1 := by
  intro sz
  refine gBody (Qf := fun A => gQi g [(q_this, .inr (1, [.ref q_bytes, .int v_length, .int u0.2.1, .int u0.2.2.1, .int u0.2.2.2.1, .int u0.2.2.2.2])), (q_bytes, .inl (g.2.1, 120, .inl f_bytes))] u0.1 A) (cc := cX1_readNumber) (maxL := 3) (ret := (some .boolean)) (own := RX1) (by decide +kernel) rfl rfl (Nat.le_of_ble_eq_true rfl) ?_
  intro p e s m args below meth c A C0 H hS hD hP ls hl
  obtain ⟨hx, hb, hml, hown, hts, hr, hlk, hN, hK, hF, hA⟩ := id C0
  have hl : lv_has ls 3 [(0, .ref q_this), (1, .int x1), (2, .int x2)] := hl
  unfold f_X1_readNumber at hres
  refine lv_aload_n hx hb dX1_readNumber_0 rfl (lv_at hl 0 rfl) ?_
  obtain ⟨u1, hu1, hres⟩ := bd hres
  refine k_v C0 (run_V (As := []) (rest := []) C0 (c_X1_next l g (q_this := q_this) (q_bytes := q_bytes) (v_length := v_length) (v_place := v_place) (v_end := v_end) (v_token := v_token) (v_value := v_value) (f_bytes := f_bytes) (u0 := u1) hu1 _) 0 gX1_readNumber_X1_next rfl rfl rfl hd_X1_next ⟨Nat.le_of_ble_eq_true rfl, Nat.le_of_ble_eq_true rfl⟩ hP hD hS [0, 1] rfl rfl 0 1 rfl rfl rfl hl.1 rfl (Nat.le_of_ble_eq_true rfl) ⟨Nat.zero_le _, Nat.zero_le _⟩ dX1_readNumber_1) hP hD hS [0, 1] [] rfl rfl rfl (by decide) (fun H locs hP hD hS => ?_)
  have hP : va_P g.1 vwCl [(q_this, .inr (1, [.ref q_bytes, .int v_length, .int u1.1, .int u1.2.1, .int u1.2.2.1, .int u1.2.2.2])), (q_bytes, .inl (g.2.1, 120, .inl f_bytes))] H := hP
  have hD : va_D A [(q_this, .inr (1, [.ref q_bytes, .int v_length, .int u1.1, .int u1.2.1, .int u1.2.2.1, .int u1.2.2.2])), (q_bytes, .inl (g.2.1, 120, .inl f_bytes))] := hD
  refine lv_aload_n hx hb dX1_readNumber_4 rfl (lv_at hl 0 rfl) ?_
  refine va_get (D := g.1) (ci := 1) (v := .int u1.2.2.1) (C := RX1) (T := TX1) (N := 6) hx hb hts in_X1_readNumber_X1 hown hK hP 0 rfl rfl 4 (by decide) (hts (.fieldLink RX1 34 "LightKeepers$Reader" "token" "I") (List.mem_of_getElem? (i := 1) rfl)) (fun _ h9 => h9) rfl dX1_readNumber_5 ?_
  refine lv_iconst (v := 2) hx hb dX1_readNumber_8 (by decide) ?_
  refine lv_icmp_ne (tgt := 32) hx hb dX1_readNumber_9 (by decide) (fun c2 => ?_) (fun c2 => ?_)
  · have hres := it_f hres c2
    refine lv_iconst (v := 0) hx hb dX1_readNumber_32 (by decide) ?_
    cases hres
    exact ret_z C0 (v := 0) rfl hP hD hS dX1_readNumber_33
  · have hres := it_t hres c2
    refine lv_aload_n hx hb dX1_readNumber_12 rfl (lv_at hl 0 rfl) ?_
    refine va_get (D := g.1) (ci := 1) (v := .int u1.2.2.2) (C := RX1) (T := TX1) (N := 6) hx hb hts in_X1_readNumber_X1 hown hK hP 0 rfl rfl 5 (by decide) (hts (.fieldLink RX1 37 "LightKeepers$Reader" "value" "I") (List.mem_of_getElem? (i := 2) rfl)) (fun _ h9 => h9) rfl dX1_readNumber_13 ?_
    refine lv_iload_n hx hb dX1_readNumber_16 rfl (lv_at hl 1 rfl) ?_
    refine lv_icmp_lt (tgt := 32) hx hb dX1_readNumber_17 (by decide) (fun c3 => ?_) (fun c3 => ?_)
    · have hres := it_t hres c3
      refine lv_iconst (v := 0) hx hb dX1_readNumber_32 (by decide) ?_
      cases hres
      exact ret_z C0 (v := 0) rfl hP hD hS dX1_readNumber_33
    · have hres := it_f hres c3
      refine lv_aload_n hx hb dX1_readNumber_20 rfl (lv_at hl 0 rfl) ?_
      refine va_get (D := g.1) (ci := 1) (v := .int u1.2.2.2) (C := RX1) (T := TX1) (N := 6) hx hb hts in_X1_readNumber_X1 hown hK hP 0 rfl rfl 5 (by decide) (hts (.fieldLink RX1 37 "LightKeepers$Reader" "value" "I") (List.mem_of_getElem? (i := 2) rfl)) (fun _ h9 => h9) rfl dX1_readNumber_21 ?_
      refine lv_iload_n hx hb dX1_readNumber_24 rfl (lv_at hl 2 rfl) ?_
      refine lv_icmp_gt (tgt := 32) hx hb dX1_readNumber_25 (by decide) (fun c4 => ?_) (fun c4 => ?_)
      · have hres := it_t hres c4
        refine lv_iconst (v := 0) hx hb dX1_readNumber_32 (by decide) ?_
        cases hres
        exact ret_z C0 (v := 0) rfl hP hD hS dX1_readNumber_33
      · have hres := it_f hres c4
        refine lv_iconst (v := 1) hx hb dX1_readNumber_28 (by decide) ?_
        refine lv_goto (tgt := 33) hx hb dX1_readNumber_29 (by decide) ?_
        cases hres
        exact ret_z C0 (v := 1) rfl hP hD hS dX1_readNumber_33
set_option maxHeartbeats 4000000 in
set_option maxRecDepth 100000 in
theorem c_X1_readSemicolon (l : Launch) (g : gG) {q_this q_bytes : Nat} {v_length : Int32} {v_place : Int32} {v_end : Int32} {v_token : Int32} {v_value : Int32} {f_bytes : Nat → Int32} {u0 : Int32 × Int32 × Int32 × Int32 × Int32} (hres : f_X1_readSemicolon v_length v_end v_value f_bytes = some u0) : Ci l g yX1_readSemicolon wsX1_readSemicolon rm_X1_readSemicolon [.ref q_this] [(q_this, .inr (1, [.ref q_bytes, .int v_length, .int v_place, .int v_end, .int v_token, .int v_value])), (q_bytes, .inl (g.2.1, 120, .inl f_bytes))] [(q_this, .inr (1, [.ref q_bytes, .int v_length, .int u0.2.1, .int u0.2.2.1, .int u0.2.2.2.1, .int u0.2.2.2.2])), (q_bytes, .inl (g.2.1, 120, .inl f_bytes))] u0.1 := by
  intro sz
  refine gBody (Qf := fun A => gQi g [(q_this, .inr (1, [.ref q_bytes, .int v_length, .int u0.2.1, .int u0.2.2.1, .int u0.2.2.2.1, .int u0.2.2.2.2])), (q_bytes, .inl (g.2.1, 120, .inl f_bytes))] u0.1 A) (cc := cX1_readSemicolon) (maxL := 1) (ret := (some .boolean)) (own := RX1) (by decide +kernel) rfl rfl (Nat.le_of_ble_eq_true rfl) ?_
  intro p e s m args below meth c A C0 H hS hD hP ls hl
  obtain ⟨hx, hb, hml, hown, hts, hr, hlk, hN, hK, hF, hA⟩ := id C0
  have hl : lv_has ls 1 [(0, .ref q_this)] := hl
  unfold f_X1_readSemicolon at hres
  refine lv_aload_n hx hb dX1_readSemicolon_0 rfl (lv_at hl 0 rfl) ?_
  obtain ⟨u1, hu1, hres⟩ := bd hres
  refine k_v C0 (run_V (As := []) (rest := []) C0 (c_X1_next l g (q_this := q_this) (q_bytes := q_bytes) (v_length := v_length) (v_place := v_place) (v_end := v_end) (v_token := v_token) (v_value := v_value) (f_bytes := f_bytes) (u0 := u1) hu1 _) 0 gX1_readSemicolon_X1_next rfl rfl rfl hd_X1_next ⟨Nat.le_of_ble_eq_true rfl, Nat.le_of_ble_eq_true rfl⟩ hP hD hS [0, 1] rfl rfl 0 1 rfl rfl rfl hl.1 rfl (Nat.le_of_ble_eq_true rfl) ⟨Nat.zero_le _, Nat.zero_le _⟩ dX1_readSemicolon_1) hP hD hS [0, 1] [] rfl rfl rfl (by decide) (fun H locs hP hD hS => ?_)
  have hP : va_P g.1 vwCl [(q_this, .inr (1, [.ref q_bytes, .int v_length, .int u1.1, .int u1.2.1, .int u1.2.2.1, .int u1.2.2.2])), (q_bytes, .inl (g.2.1, 120, .inl f_bytes))] H := hP
  have hD : va_D A [(q_this, .inr (1, [.ref q_bytes, .int v_length, .int u1.1, .int u1.2.1, .int u1.2.2.1, .int u1.2.2.2])), (q_bytes, .inl (g.2.1, 120, .inl f_bytes))] := hD
  refine lv_aload_n hx hb dX1_readSemicolon_4 rfl (lv_at hl 0 rfl) ?_
  refine va_get (D := g.1) (ci := 1) (v := .int u1.2.2.1) (C := RX1) (T := TX1) (N := 6) hx hb hts in_X1_readSemicolon_X1 hown hK hP 0 rfl rfl 4 (by decide) (hts (.fieldLink RX1 34 "LightKeepers$Reader" "token" "I") (List.mem_of_getElem? (i := 1) rfl)) (fun _ h9 => h9) rfl dX1_readSemicolon_5 ?_
  refine lv_iconst (v := 3) hx hb dX1_readSemicolon_8 (by decide) ?_
  refine lv_icmp_ne (tgt := 16) hx hb dX1_readSemicolon_9 (by decide) (fun c2 => ?_) (fun c2 => ?_)
  · have hres := it_f hres c2
    refine lv_iconst (v := 0) hx hb dX1_readSemicolon_16 (by decide) ?_
    cases hres
    exact ret_z C0 (v := 0) rfl hP hD hS dX1_readSemicolon_17
  · have hres := it_t hres c2
    refine lv_iconst (v := 1) hx hb dX1_readSemicolon_12 (by decide) ?_
    refine lv_goto (tgt := 17) hx hb dX1_readSemicolon_13 (by decide) ?_
    cases hres
    exact ret_z C0 (v := 1) rfl hP hD hS dX1_readSemicolon_17
set_option maxHeartbeats 4000000 in
set_option maxRecDepth 100000 in
theorem c_X4_hatersOf (l : Launch) (g : gG) {q_this q_flashes q_haters : Nat} {v_keepers : Int32} {v_hates : Int32} {v_sight : Int32} {v_sightTold : Int32} {f_haters : Nat → Int32} {x1 : Int32} {u0 : Int32} (hres : f_X4_hatersOf f_haters x1 = some u0) : Ci l g yX4_hatersOf wsX4_hatersOf rm_X4_hatersOf [.ref q_this, .int x1] [(q_this, .inr (4, [.int v_keepers, .int v_hates, .int v_sight, .int v_sightTold, .ref q_flashes, .ref q_haters])), (q_haters, .inl (g.2.1, 6, .inl f_haters))] [(q_this, .inr (4, [.int v_keepers, .int v_hates, .int v_sight, .int v_sightTold, .ref q_flashes, .ref q_haters])), (q_haters, .inl (g.2.1, 6, .inl f_haters))] u0 := by
  intro sz
  refine gBody (Qf := fun A => gQi g [(q_this, .inr (4, [.int v_keepers, .int v_hates, .int v_sight, .int v_sightTold, .ref q_flashes, .ref q_haters])), (q_haters, .inl (g.2.1, 6, .inl f_haters))] u0 A) (cc := cX4_hatersOf) (maxL := 2) (ret := (some .int)) (own := RX4) (by decide +kernel) rfl rfl (Nat.le_of_ble_eq_true rfl) ?_
  intro p e s m args below meth c A C0 H hS hD hP ls hl
  obtain ⟨hx, hb, hml, hown, hts, hr, hlk, hN, hK, hF, hA⟩ := id C0
  have hl : lv_has ls 2 [(0, .ref q_this), (1, .int x1)] := hl
  unfold f_X4_hatersOf at hres
  refine lv_iload_n hx hb dX4_hatersOf_0 rfl (lv_at hl 1 rfl) ?_
  refine lv_if_lt (tgt := 19) hx hb dX4_hatersOf_1 (by decide) (fun c1 => ?_) (fun c1 => ?_)
  · have hres := it_t hres c1
    refine lv_iconst (v := 0) hx hb dX4_hatersOf_19 (by decide) ?_
    cases hres
    exact ret_i C0 hP hD hS dX4_hatersOf_20
  · have hres := it_f hres c1
    refine lv_iload_n hx hb dX4_hatersOf_4 rfl (lv_at hl 1 rfl) ?_
    refine lv_bipush (v := 6) hx hb dX4_hatersOf_5 (by decide) ?_
    refine lv_icmp_ge (tgt := 19) hx hb dX4_hatersOf_7 (by decide) (fun c2 => ?_) (fun c2 => ?_)
    · have hres := it_t hres c2
      refine lv_iconst (v := 0) hx hb dX4_hatersOf_19 (by decide) ?_
      cases hres
      exact ret_i C0 hP hD hS dX4_hatersOf_20
    · have hres := it_f hres c2
      refine lv_aload_n hx hb dX4_hatersOf_10 rfl (lv_at hl 0 rfl) ?_
      refine va_get (D := g.1) (ci := 4) (v := .ref q_haters) (C := RX4) (T := TX4) (N := 6) hx hb hts in_X4_hatersOf_X4 hown hK hP 0 rfl rfl 5 (by decide) (hts (.fieldLink RX4 19 "LightKeepers$Told" "haters" "[I") (List.mem_of_getElem? (i := 1) rfl)) (fun _ h9 => h9) rfl dX4_hatersOf_11 ?_
      refine lv_iload_n hx hb dX4_hatersOf_14 rfl (lv_at hl 1 rfl) ?_
      have c3 := gd1 hres
      have hres := gd2 hres
      refine va_iald hx hb hK hP 1 0 rfl rfl (show vp_in _ _ from c3) dX4_hatersOf_15 ?_
      refine lv_goto (tgt := 20) hx hb dX4_hatersOf_16 (by decide) ?_
      cases hres
      exact ret_i C0 hP hD hS dX4_hatersOf_20
set_option maxHeartbeats 4000000 in
set_option maxRecDepth 100000 in
theorem c_X4_addHate (l : Launch) (g : gG) {q_this q_flashes q_haters : Nat} {v_keepers : Int32} {v_hates : Int32} {v_sight : Int32} {v_sightTold : Int32} {f_haters : Nat → Int32} {x1 : Int32} {x2 : Int32} {u0 : Int32 × (Nat → Int32)} (hres : f_X4_addHate v_hates f_haters x1 x2 = some u0) : Cv l g yX4_addHate wsX4_addHate rm_X4_addHate [.ref q_this, .int x1, .int x2] [(q_this, .inr (4, [.int v_keepers, .int v_hates, .int v_sight, .int v_sightTold, .ref q_flashes, .ref q_haters])), (q_haters, .inl (g.2.1, 6, .inl f_haters))] [(q_this, .inr (4, [.int v_keepers, .int u0.1, .int v_sight, .int v_sightTold, .ref q_flashes, .ref q_haters])), (q_haters, .inl (g.2.1, 6, .inl u0.2))] := by
  intro sz
  refine gBody (Qf := fun A => gQv g [(q_this, .inr (4, [.int v_keepers, .int u0.1, .int v_sight, .int v_sightTold, .ref q_flashes, .ref q_haters])), (q_haters, .inl (g.2.1, 6, .inl u0.2))] A) (cc := cX4_addHate) (maxL := 3) (ret := none) (own := RX4) (by decide +kernel) rfl rfl (Nat.le_of_ble_eq_true rfl) ?_
  intro p e s m args below meth c A C0 H hS hD hP ls hl
  obtain ⟨hx, hb, hml, hown, hts, hr, hlk, hN, hK, hF, hA⟩ := id C0
  have hl : lv_has ls 3 [(0, .ref q_this), (1, .int x1), (2, .int x2)] := hl
  unfold f_X4_addHate at hres
  refine lv_aload_n hx hb dX4_addHate_0 rfl (lv_at hl 0 rfl) ?_
  refine va_get (D := g.1) (ci := 4) (v := .ref q_haters) (C := RX4) (T := TX4) (N := 6) hx hb hts in_X4_addHate_X4 hown hK hP 0 rfl rfl 5 (by decide) (hts (.fieldLink RX4 19 "LightKeepers$Told" "haters" "[I") (List.mem_of_getElem? (i := 1) rfl)) (fun _ h9 => h9) rfl dX4_addHate_1 ?_
  refine lv_iload_n hx hb dX4_addHate_4 rfl (lv_at hl 1 rfl) ?_
  refine lv_aload_n hx hb dX4_addHate_5 rfl (lv_at hl 0 rfl) ?_
  refine lv_iload_n hx hb dX4_addHate_6 rfl (lv_at hl 1 rfl) ?_
  obtain ⟨u1, hu1, hres⟩ := bd hres
  refine k_i C0 (run_V (As := [.int x1]) (rest := [.int x1, .ref q_haters]) C0 (c_X4_hatersOf l g (q_this := q_this) (q_flashes := q_flashes) (q_haters := q_haters) (v_keepers := v_keepers) (v_hates := v_hates) (v_sight := v_sight) (v_sightTold := v_sightTold) (f_haters := f_haters) (x1 := x1) (u0 := u1) hu1 _) 1 gX4_addHate_X4_hatersOf rfl rfl rfl hd_X4_hatersOf ⟨Nat.le_of_ble_eq_true rfl, Nat.le_of_ble_eq_true rfl⟩ hP hD hS [0, 1] rfl rfl 0 4 rfl rfl rfl hl.1 rfl (Nat.le_of_ble_eq_true rfl) ⟨Nat.zero_le _, Nat.zero_le _⟩ dX4_addHate_7) hP hD hS [0, 1] [] rfl rfl rfl (by decide) (fun H locs hP hD hS => ?_)
  have hP : va_P g.1 vwCl [(q_this, .inr (4, [.int v_keepers, .int v_hates, .int v_sight, .int v_sightTold, .ref q_flashes, .ref q_haters])), (q_haters, .inl (g.2.1, 6, .inl f_haters))] H := hP
  have hD : va_D A [(q_this, .inr (4, [.int v_keepers, .int v_hates, .int v_sight, .int v_sightTold, .ref q_flashes, .ref q_haters])), (q_haters, .inl (g.2.1, 6, .inl f_haters))] := hD
  refine lv_iconst (v := 1) hx hb dX4_addHate_10 (by decide) ?_
  refine lv_iload_n hx hb dX4_addHate_11 rfl (lv_at hl 2 rfl) ?_
  refine lv_ishl hx hb dX4_addHate_12 ?_
  refine lv_ior hx hb dX4_addHate_13 ?_
  obtain ⟨u2, hu2, hres⟩ := bd hres
  refine k_v C0 (run_SN (As := [.ref q_haters, .int x1, .int (u1 ||| (1 <<< (x2 &&& 31)))]) (rest := []) C0 (c_X6_put l g (q_a0 := q_haters) (n_a0 := 6) (f_a0 := f_haters) (x1 := x1) (x2 := (u1 ||| (1 <<< (x2 &&& 31)))) (u0 := u2) hu2 _) 3 gX4_addHate_X6_put_n44 rfl rfl rfl (List.mem_of_getElem? (i := 12) rfl) (List.mem_of_getElem? (i := 8) rfl) (List.mem_of_getElem? (i := 9) rfl) hd_X6_put ⟨Nat.le_of_ble_eq_true rfl, Nat.le_of_ble_eq_true rfl⟩ hP hD hS [1] rfl rfl rfl hl.1 rfl (Nat.le_of_ble_eq_true rfl) ⟨Nat.zero_le _, Nat.zero_le _⟩ dX4_addHate_14) hP hD hS [1] [0] rfl rfl rfl (by decide) (fun H locs hP hD hS => ?_)
  have hP : va_P g.1 vwCl [(q_this, .inr (4, [.int v_keepers, .int v_hates, .int v_sight, .int v_sightTold, .ref q_flashes, .ref q_haters])), (q_haters, .inl (g.2.1, 6, .inl u2))] H := hP
  have hD : va_D A [(q_this, .inr (4, [.int v_keepers, .int v_hates, .int v_sight, .int v_sightTold, .ref q_flashes, .ref q_haters])), (q_haters, .inl (g.2.1, 6, .inl u2))] := hD
  refine lv_aload_n hx hb dX4_addHate_17 rfl (lv_at hl 0 rfl) ?_
  refine va_get (D := g.1) (ci := 4) (v := .ref q_haters) (C := RX4) (T := TX4) (N := 6) hx hb hts in_X4_addHate_X4 hown hK hP 0 rfl rfl 5 (by decide) (hts (.fieldLink RX4 19 "LightKeepers$Told" "haters" "[I") (List.mem_of_getElem? (i := 1) rfl)) (fun _ h9 => h9) rfl dX4_addHate_18 ?_
  refine lv_iload_n hx hb dX4_addHate_21 rfl (lv_at hl 2 rfl) ?_
  refine lv_aload_n hx hb dX4_addHate_22 rfl (lv_at hl 0 rfl) ?_
  refine lv_iload_n hx hb dX4_addHate_23 rfl (lv_at hl 2 rfl) ?_
  obtain ⟨u3, hu3, hres⟩ := bd hres
  refine k_i C0 (run_V (As := [.int x2]) (rest := [.int x2, .ref q_haters]) C0 (c_X4_hatersOf l g (q_this := q_this) (q_flashes := q_flashes) (q_haters := q_haters) (v_keepers := v_keepers) (v_hates := v_hates) (v_sight := v_sight) (v_sightTold := v_sightTold) (f_haters := u2) (x1 := x2) (u0 := u3) hu3 _) 1 gX4_addHate_X4_hatersOf rfl rfl rfl hd_X4_hatersOf ⟨Nat.le_of_ble_eq_true rfl, Nat.le_of_ble_eq_true rfl⟩ hP hD hS [0, 1] rfl rfl 0 4 rfl rfl rfl hl.1 rfl (Nat.le_of_ble_eq_true rfl) ⟨Nat.zero_le _, Nat.zero_le _⟩ dX4_addHate_24) hP hD hS [0, 1] [] rfl rfl rfl (by decide) (fun H locs hP hD hS => ?_)
  have hP : va_P g.1 vwCl [(q_this, .inr (4, [.int v_keepers, .int v_hates, .int v_sight, .int v_sightTold, .ref q_flashes, .ref q_haters])), (q_haters, .inl (g.2.1, 6, .inl u2))] H := hP
  have hD : va_D A [(q_this, .inr (4, [.int v_keepers, .int v_hates, .int v_sight, .int v_sightTold, .ref q_flashes, .ref q_haters])), (q_haters, .inl (g.2.1, 6, .inl u2))] := hD
  refine lv_iconst (v := 1) hx hb dX4_addHate_27 (by decide) ?_
  refine lv_iload_n hx hb dX4_addHate_28 rfl (lv_at hl 1 rfl) ?_
  refine lv_ishl hx hb dX4_addHate_29 ?_
  refine lv_ior hx hb dX4_addHate_30 ?_
  obtain ⟨u4, hu4, hres⟩ := bd hres
  refine k_v C0 (run_SN (As := [.ref q_haters, .int x2, .int (u3 ||| (1 <<< (x1 &&& 31)))]) (rest := []) C0 (c_X6_put l g (q_a0 := q_haters) (n_a0 := 6) (f_a0 := u2) (x1 := x2) (x2 := (u3 ||| (1 <<< (x1 &&& 31)))) (u0 := u4) hu4 _) 3 gX4_addHate_X6_put_n44 rfl rfl rfl (List.mem_of_getElem? (i := 12) rfl) (List.mem_of_getElem? (i := 8) rfl) (List.mem_of_getElem? (i := 9) rfl) hd_X6_put ⟨Nat.le_of_ble_eq_true rfl, Nat.le_of_ble_eq_true rfl⟩ hP hD hS [1] rfl rfl rfl hl.1 rfl (Nat.le_of_ble_eq_true rfl) ⟨Nat.zero_le _, Nat.zero_le _⟩ dX4_addHate_31) hP hD hS [1] [0] rfl rfl rfl (by decide) (fun H locs hP hD hS => ?_)
  have hP : va_P g.1 vwCl [(q_this, .inr (4, [.int v_keepers, .int v_hates, .int v_sight, .int v_sightTold, .ref q_flashes, .ref q_haters])), (q_haters, .inl (g.2.1, 6, .inl u4))] H := hP
  have hD : va_D A [(q_this, .inr (4, [.int v_keepers, .int v_hates, .int v_sight, .int v_sightTold, .ref q_flashes, .ref q_haters])), (q_haters, .inl (g.2.1, 6, .inl u4))] := hD
  refine lv_aload_n hx hb dX4_addHate_34 rfl (lv_at hl 0 rfl) ?_
  refine lv_dup hx hb dX4_addHate_35 rfl ?_
  refine va_get (D := g.1) (ci := 4) (v := .int v_hates) (C := RX4) (T := TX4) (N := 6) hx hb hts in_X4_addHate_X4 hown hK hP 0 rfl rfl 1 (by decide) (hts (.fieldLink RX4 25 "LightKeepers$Told" "hates" "I") (List.mem_of_getElem? (i := 2) rfl)) (fun _ h9 => h9) rfl dX4_addHate_36 ?_
  refine lv_iconst (v := 1) hx hb dX4_addHate_39 (by decide) ?_
  refine lv_iadd hx hb dX4_addHate_40 ?_
  refine va_put (D := g.1) (ci := 4) (v := .int (v_hates + 1)) (ty := .int) (C := RX4) (T := TX4) (N := 6) hx hb hts in_X4_addHate_X4 tyX4 tyX4_ok nmX4 hown hK hP hD hS 0 rfl rfl 1 (by decide) (hts (.fieldLink RX4 25 "LightKeepers$Told" "hates" "I") (List.mem_of_getElem? (i := 2) rfl)) (fun _ h9 => h9) rfl (tyX4_ok 1 (by decide)) rfl rfl (Nat.le_of_ble_eq_true rfl) dX4_addHate_41 (fun H locs hP hD hS => ?_)
  have hP : va_P g.1 vwCl [(q_this, .inr (4, [.int v_keepers, .int (v_hates + 1), .int v_sight, .int v_sightTold, .ref q_flashes, .ref q_haters])), (q_haters, .inl (g.2.1, 6, .inl u4))] H := hP
  have hD : va_D A [(q_this, .inr (4, [.int v_keepers, .int (v_hates + 1), .int v_sight, .int v_sightTold, .ref q_flashes, .ref q_haters])), (q_haters, .inl (g.2.1, 6, .inl u4))] := hD
  cases hres
  exact ret_v C0 hP hD hS dX4_addHate_44
set_option maxHeartbeats 4000000 in
set_option maxRecDepth 100000 in
theorem c_X1_readHate (l : Launch) (g : gG) {q_this q_bytes q_a1 q_a1_flashes q_a1_haters : Nat} {v_length : Int32} {v_place : Int32} {v_end : Int32} {v_token : Int32} {v_value : Int32} {v_a1_keepers : Int32} {v_a1_hates : Int32} {v_a1_sight : Int32} {v_a1_sightTold : Int32} {f_bytes : Nat → Int32} {f_a1_haters : Nat → Int32} {u0 : Int32 × Int32 × Int32 × Int32 × Int32 × Int32 × (Nat → Int32)} (hres : f_X1_readHate v_length v_place v_end v_token v_value v_a1_keepers v_a1_hates f_bytes f_a1_haters = some u0) : Ci l g yX1_readHate wsX1_readHate rm_X1_readHate [.ref q_this, .ref q_a1] [(q_this, .inr (1, [.ref q_bytes, .int v_length, .int v_place, .int v_end, .int v_token, .int v_value])), (q_a1, .inr (4, [.int v_a1_keepers, .int v_a1_hates, .int v_a1_sight, .int v_a1_sightTold, .ref q_a1_flashes, .ref q_a1_haters])), (q_bytes, .inl (g.2.1, 120, .inl f_bytes)), (q_a1_haters, .inl (g.2.1, 6, .inl f_a1_haters))] [(q_this, .inr (1, [.ref q_bytes, .int v_length, .int u0.2.1, .int u0.2.2.1, .int u0.2.2.2.1, .int u0.2.2.2.2.1])), (q_a1, .inr (4, [.int v_a1_keepers, .int u0.2.2.2.2.2.1, .int v_a1_sight, .int v_a1_sightTold, .ref q_a1_flashes, .ref q_a1_haters])), (q_bytes, .inl (g.2.1, 120, .inl f_bytes)), (q_a1_haters, .inl (g.2.1, 6, .inl u0.2.2.2.2.2.2))] u0.1 := by
  intro sz
  refine gBody (Qf := fun A => gQi g [(q_this, .inr (1, [.ref q_bytes, .int v_length, .int u0.2.1, .int u0.2.2.1, .int u0.2.2.2.1, .int u0.2.2.2.2.1])), (q_a1, .inr (4, [.int v_a1_keepers, .int u0.2.2.2.2.2.1, .int v_a1_sight, .int v_a1_sightTold, .ref q_a1_flashes, .ref q_a1_haters])), (q_bytes, .inl (g.2.1, 120, .inl f_bytes)), (q_a1_haters, .inl (g.2.1, 6, .inl u0.2.2.2.2.2.2))] u0.1 A) (cc := cX1_readHate) (maxL := 3) (ret := (some .boolean)) (own := RX1) (by decide +kernel) rfl rfl (Nat.le_of_ble_eq_true rfl) ?_
  intro p e s m args below meth c A C0 H hS hD hP ls hl
  obtain ⟨hx, hb, hml, hown, hts, hr, hlk, hN, hK, hF, hA⟩ := id C0
  have hl : lv_has ls 3 [(0, .ref q_this), (1, .ref q_a1)] := hl
  unfold f_X1_readHate at hres
  refine lv_aload_n hx hb dX1_readHate_0 rfl (lv_at hl 1 rfl) ?_
  refine va_get (D := g.1) (ci := 4) (v := .int v_a1_hates) (C := RX4) (T := TX4) (N := 6) hx hb hts in_X1_readHate_X4 hown hK hP 1 rfl rfl 1 (by decide) (hts (.fieldLink RX1 65 "LightKeepers$Told" "hates" "I") (List.mem_of_getElem? (i := 1) rfl)) (fun _ h9 => h9) rfl dX1_readHate_1 ?_
  refine lv_bipush (v := 8) hx hb dX1_readHate_4 (by decide) ?_
  refine lv_icmp_ge (tgt := 23) hx hb dX1_readHate_6 (by decide) (fun c1 => ?_) (fun c1 => ?_)
  · have hres := it_t hres c1
    refine lv_iconst (v := 0) hx hb dX1_readHate_23 (by decide) ?_
    cases hres
    exact ret_z C0 (v := 0) rfl hP hD hS dX1_readHate_24
  · have hres := it_f hres c1
    refine lv_aload_n hx hb dX1_readHate_9 rfl (lv_at hl 0 rfl) ?_
    refine lv_iconst (v := 0) hx hb dX1_readHate_10 (by decide) ?_
    refine lv_aload_n hx hb dX1_readHate_11 rfl (lv_at hl 1 rfl) ?_
    refine va_get (D := g.1) (ci := 4) (v := .int v_a1_keepers) (C := RX4) (T := TX4) (N := 6) hx hb hts in_X1_readHate_X4 hown hK hP 1 rfl rfl 0 (by decide) (hts (.fieldLink RX1 50 "LightKeepers$Told" "keepers" "I") (List.mem_of_getElem? (i := 2) rfl)) (fun _ h9 => h9) rfl dX1_readHate_12 ?_
    refine lv_iconst (v := 1) hx hb dX1_readHate_15 (by decide) ?_
    refine lv_isub hx hb dX1_readHate_16 ?_
    obtain ⟨u2, hu2, hres⟩ := bd hres
    refine k_i C0 (run_V (As := [.int 0, .int (v_a1_keepers - 1)]) (rest := []) C0 (c_X1_readNumber l g (q_this := q_this) (q_bytes := q_bytes) (v_length := v_length) (v_place := v_place) (v_end := v_end) (v_token := v_token) (v_value := v_value) (f_bytes := f_bytes) (x1 := 0) (x2 := (v_a1_keepers - 1)) (u0 := u2) hu2 _) 2 gX1_readHate_X1_readNumber rfl rfl rfl hd_X1_readNumber ⟨Nat.le_of_ble_eq_true rfl, Nat.le_of_ble_eq_true rfl⟩ hP hD hS [0, 2] rfl rfl 0 1 rfl rfl rfl hl.1 rfl (Nat.le_of_ble_eq_true rfl) ⟨Nat.zero_le _, Nat.zero_le _⟩ dX1_readHate_17) hP hD hS [0, 2] [1, 3] rfl rfl rfl (by decide) (fun H locs hP hD hS => ?_)
    have hP : va_P g.1 vwCl [(q_a1, .inr (4, [.int v_a1_keepers, .int v_a1_hates, .int v_a1_sight, .int v_a1_sightTold, .ref q_a1_flashes, .ref q_a1_haters])), (q_a1_haters, .inl (g.2.1, 6, .inl f_a1_haters)), (q_this, .inr (1, [.ref q_bytes, .int v_length, .int u2.2.1, .int u2.2.2.1, .int u2.2.2.2.1, .int u2.2.2.2.2])), (q_bytes, .inl (g.2.1, 120, .inl f_bytes))] H := hP
    have hD : va_D A [(q_a1, .inr (4, [.int v_a1_keepers, .int v_a1_hates, .int v_a1_sight, .int v_a1_sightTold, .ref q_a1_flashes, .ref q_a1_haters])), (q_a1_haters, .inl (g.2.1, 6, .inl f_a1_haters)), (q_this, .inr (1, [.ref q_bytes, .int v_length, .int u2.2.1, .int u2.2.2.1, .int u2.2.2.2.1, .int u2.2.2.2.2])), (q_bytes, .inl (g.2.1, 120, .inl f_bytes))] := hD
    refine lv_if_ne (tgt := 25) hx hb dX1_readHate_20 (by decide) (fun c3 => ?_) (fun c3 => ?_)
    · have hres := it_f hres c3
      refine lv_aload_n hx hb dX1_readHate_25 rfl (lv_at hl 0 rfl) ?_
      refine va_get (D := g.1) (ci := 1) (v := .int u2.2.2.2.2) (C := RX1) (T := TX1) (N := 6) hx hb hts in_X1_readHate_X1 hown hK hP 2 rfl rfl 5 (by decide) (hts (.fieldLink RX1 37 "LightKeepers$Reader" "value" "I") (List.mem_of_getElem? (i := 3) rfl)) (fun _ h9 => h9) rfl dX1_readHate_26 ?_
      refine lv_istore_n (lv' := [(2, .int u2.2.2.2.2), (0, .ref q_this), (1, .ref q_a1)]) hx hb dX1_readHate_29 rfl hl (by decide) rfl (fun ls hl => ?_)
      refine lv_aload_n hx hb dX1_readHate_30 rfl (lv_at hl 1 rfl) ?_
      refine lv_iconst (v := 0) hx hb dX1_readHate_31 (by decide) ?_
      refine lv_aload_n hx hb dX1_readHate_32 rfl (lv_at hl 2 rfl) ?_
      refine va_get (D := g.1) (ci := 4) (v := .int v_a1_keepers) (C := RX4) (T := TX4) (N := 6) hx hb hts in_X1_readHate_X4 hown hK hP 0 rfl rfl 0 (by decide) (hts (.fieldLink RX1 50 "LightKeepers$Told" "keepers" "I") (List.mem_of_getElem? (i := 2) rfl)) (fun _ h9 => h9) rfl dX1_readHate_33 ?_
      refine lv_iconst (v := 1) hx hb dX1_readHate_36 (by decide) ?_
      refine lv_isub hx hb dX1_readHate_37 ?_
      obtain ⟨u4, hu4, hres⟩ := bd hres
      refine k_i C0 (run_V (As := [.int 0, .int (v_a1_keepers - 1)]) (rest := []) C0 (c_X1_readNumber l g (q_this := q_this) (q_bytes := q_bytes) (v_length := v_length) (v_place := u2.2.1) (v_end := u2.2.2.1) (v_token := u2.2.2.2.1) (v_value := u2.2.2.2.2) (f_bytes := f_bytes) (x1 := 0) (x2 := (v_a1_keepers - 1)) (u0 := u4) hu4 _) 2 gX1_readHate_X1_readNumber rfl rfl rfl hd_X1_readNumber ⟨Nat.le_of_ble_eq_true rfl, Nat.le_of_ble_eq_true rfl⟩ hP hD hS [2, 3] rfl rfl 2 1 rfl rfl rfl hl.1 rfl (Nat.le_of_ble_eq_true rfl) ⟨Nat.zero_le _, Nat.zero_le _⟩ dX1_readHate_38) hP hD hS [2, 3] [0, 1] rfl rfl rfl (by decide) (fun H locs hP hD hS => ?_)
      have hP : va_P g.1 vwCl [(q_a1, .inr (4, [.int v_a1_keepers, .int v_a1_hates, .int v_a1_sight, .int v_a1_sightTold, .ref q_a1_flashes, .ref q_a1_haters])), (q_a1_haters, .inl (g.2.1, 6, .inl f_a1_haters)), (q_this, .inr (1, [.ref q_bytes, .int v_length, .int u4.2.1, .int u4.2.2.1, .int u4.2.2.2.1, .int u4.2.2.2.2])), (q_bytes, .inl (g.2.1, 120, .inl f_bytes))] H := hP
      have hD : va_D A [(q_a1, .inr (4, [.int v_a1_keepers, .int v_a1_hates, .int v_a1_sight, .int v_a1_sightTold, .ref q_a1_flashes, .ref q_a1_haters])), (q_a1_haters, .inl (g.2.1, 6, .inl f_a1_haters)), (q_this, .inr (1, [.ref q_bytes, .int v_length, .int u4.2.1, .int u4.2.2.1, .int u4.2.2.2.1, .int u4.2.2.2.2])), (q_bytes, .inl (g.2.1, 120, .inl f_bytes))] := hD
      refine lv_if_eq (tgt := 52) hx hb dX1_readHate_41 (by decide) (fun c5 => ?_) (fun c5 => ?_)
      · have hres := it_t hres c5
        refine lv_iconst (v := 0) hx hb dX1_readHate_52 (by decide) ?_
        have hP : va_P g.1 vwCl [(q_this, .inr (1, [.ref q_bytes, .int v_length, .int u4.2.1, .int u4.2.2.1, .int u4.2.2.2.1, .int u4.2.2.2.2])), (q_a1, .inr (4, [.int v_a1_keepers, .int v_a1_hates, .int v_a1_sight, .int v_a1_sightTold, .ref q_a1_flashes, .ref q_a1_haters])), (q_bytes, .inl (g.2.1, 120, .inl f_bytes)), (q_a1_haters, .inl (g.2.1, 6, .inl f_a1_haters))] H := hP.sub [2, 0, 3, 1] rfl
        have hD : va_D A [(q_this, .inr (1, [.ref q_bytes, .int v_length, .int u4.2.1, .int u4.2.2.1, .int u4.2.2.2.1, .int u4.2.2.2.2])), (q_a1, .inr (4, [.int v_a1_keepers, .int v_a1_hates, .int v_a1_sight, .int v_a1_sightTold, .ref q_a1_flashes, .ref q_a1_haters])), (q_bytes, .inl (g.2.1, 120, .inl f_bytes)), (q_a1_haters, .inl (g.2.1, 6, .inl f_a1_haters))] := hD.sub [2, 0, 3, 1] (by decide) rfl
        cases hres
        exact ret_z C0 (v := 0) rfl hP hD hS dX1_readHate_53
      · have hres := it_f hres c5
        refine lv_aload_n hx hb dX1_readHate_44 rfl (lv_at hl 1 rfl) ?_
        refine va_get (D := g.1) (ci := 1) (v := .int u4.2.2.2.2) (C := RX1) (T := TX1) (N := 6) hx hb hts in_X1_readHate_X1 hown hK hP 2 rfl rfl 5 (by decide) (hts (.fieldLink RX1 37 "LightKeepers$Reader" "value" "I") (List.mem_of_getElem? (i := 3) rfl)) (fun _ h9 => h9) rfl dX1_readHate_45 ?_
        refine lv_iload_n hx hb dX1_readHate_48 rfl (lv_at hl 0 rfl) ?_
        refine lv_icmp_ne (tgt := 54) hx hb dX1_readHate_49 (by decide) (fun c6 => ?_) (fun c6 => ?_)
        · have hres := it_f hres c6
          refine lv_aload_n hx hb dX1_readHate_54 rfl (lv_at hl 2 rfl) ?_
          refine lv_iload_n hx hb dX1_readHate_55 rfl (lv_at hl 0 rfl) ?_
          refine lv_aload_n hx hb dX1_readHate_56 rfl (lv_at hl 1 rfl) ?_
          refine va_get (D := g.1) (ci := 1) (v := .int u4.2.2.2.2) (C := RX1) (T := TX1) (N := 6) hx hb hts in_X1_readHate_X1 hown hK hP 2 rfl rfl 5 (by decide) (hts (.fieldLink RX1 37 "LightKeepers$Reader" "value" "I") (List.mem_of_getElem? (i := 3) rfl)) (fun _ h9 => h9) rfl dX1_readHate_57 ?_
          obtain ⟨u7, hu7, hres⟩ := bd hres
          refine k_v C0 (run_V (As := [.int u2.2.2.2.2, .int u4.2.2.2.2]) (rest := []) C0 (c_X4_addHate l g (q_this := q_a1) (q_flashes := q_a1_flashes) (q_haters := q_a1_haters) (v_keepers := v_a1_keepers) (v_hates := v_a1_hates) (v_sight := v_a1_sight) (v_sightTold := v_a1_sightTold) (f_haters := f_a1_haters) (x1 := u2.2.2.2.2) (x2 := u4.2.2.2.2) (u0 := u7) hu7 _) 2 gX1_readHate_X4_addHate rfl rfl rfl hd_X4_addHate ⟨Nat.le_of_ble_eq_true rfl, Nat.le_of_ble_eq_true rfl⟩ hP hD hS [0, 1] rfl rfl 0 4 rfl rfl rfl hl.1 rfl (Nat.le_of_ble_eq_true rfl) ⟨Nat.zero_le _, Nat.zero_le _⟩ dX1_readHate_60) hP hD hS [0, 1] [2, 3] rfl rfl rfl (by decide) (fun H locs hP hD hS => ?_)
          have hP : va_P g.1 vwCl [(q_this, .inr (1, [.ref q_bytes, .int v_length, .int u4.2.1, .int u4.2.2.1, .int u4.2.2.2.1, .int u4.2.2.2.2])), (q_bytes, .inl (g.2.1, 120, .inl f_bytes)), (q_a1, .inr (4, [.int v_a1_keepers, .int u7.1, .int v_a1_sight, .int v_a1_sightTold, .ref q_a1_flashes, .ref q_a1_haters])), (q_a1_haters, .inl (g.2.1, 6, .inl u7.2))] H := hP
          have hD : va_D A [(q_this, .inr (1, [.ref q_bytes, .int v_length, .int u4.2.1, .int u4.2.2.1, .int u4.2.2.2.1, .int u4.2.2.2.2])), (q_bytes, .inl (g.2.1, 120, .inl f_bytes)), (q_a1, .inr (4, [.int v_a1_keepers, .int u7.1, .int v_a1_sight, .int v_a1_sightTold, .ref q_a1_flashes, .ref q_a1_haters])), (q_a1_haters, .inl (g.2.1, 6, .inl u7.2))] := hD
          refine lv_aload_n hx hb dX1_readHate_63 rfl (lv_at hl 1 rfl) ?_
          obtain ⟨u8, hu8, hres⟩ := bd hres
          refine k_i C0 (run_V (As := []) (rest := []) C0 (c_X1_readSemicolon l g (q_this := q_this) (q_bytes := q_bytes) (v_length := v_length) (v_place := u4.2.1) (v_end := u4.2.2.1) (v_token := u4.2.2.2.1) (v_value := u4.2.2.2.2) (f_bytes := f_bytes) (u0 := u8) hu8 _) 0 gX1_readHate_X1_readSemicolon rfl rfl rfl hd_X1_readSemicolon ⟨Nat.le_of_ble_eq_true rfl, Nat.le_of_ble_eq_true rfl⟩ hP hD hS [0, 1] rfl rfl 0 1 rfl rfl rfl hl.1 rfl (Nat.le_of_ble_eq_true rfl) ⟨Nat.zero_le _, Nat.zero_le _⟩ dX1_readHate_64) hP hD hS [0, 1] [2, 3] rfl rfl rfl (by decide) (fun H locs hP hD hS => ?_)
          have hP : va_P g.1 vwCl [(q_a1, .inr (4, [.int v_a1_keepers, .int u7.1, .int v_a1_sight, .int v_a1_sightTold, .ref q_a1_flashes, .ref q_a1_haters])), (q_a1_haters, .inl (g.2.1, 6, .inl u7.2)), (q_this, .inr (1, [.ref q_bytes, .int v_length, .int u8.2.1, .int u8.2.2.1, .int u8.2.2.2.1, .int u8.2.2.2.2])), (q_bytes, .inl (g.2.1, 120, .inl f_bytes))] H := hP
          have hD : va_D A [(q_a1, .inr (4, [.int v_a1_keepers, .int u7.1, .int v_a1_sight, .int v_a1_sightTold, .ref q_a1_flashes, .ref q_a1_haters])), (q_a1_haters, .inl (g.2.1, 6, .inl u7.2)), (q_this, .inr (1, [.ref q_bytes, .int v_length, .int u8.2.1, .int u8.2.2.1, .int u8.2.2.2.1, .int u8.2.2.2.2])), (q_bytes, .inl (g.2.1, 120, .inl f_bytes))] := hD
          have c9 := gd1 hres
          have hres := gd2 hres
          have hP : va_P g.1 vwCl [(q_this, .inr (1, [.ref q_bytes, .int v_length, .int u8.2.1, .int u8.2.2.1, .int u8.2.2.2.1, .int u8.2.2.2.2])), (q_a1, .inr (4, [.int v_a1_keepers, .int u7.1, .int v_a1_sight, .int v_a1_sightTold, .ref q_a1_flashes, .ref q_a1_haters])), (q_bytes, .inl (g.2.1, 120, .inl f_bytes)), (q_a1_haters, .inl (g.2.1, 6, .inl u7.2))] H := hP.sub [2, 0, 3, 1] rfl
          have hD : va_D A [(q_this, .inr (1, [.ref q_bytes, .int v_length, .int u8.2.1, .int u8.2.2.1, .int u8.2.2.2.1, .int u8.2.2.2.2])), (q_a1, .inr (4, [.int v_a1_keepers, .int u7.1, .int v_a1_sight, .int v_a1_sightTold, .ref q_a1_flashes, .ref q_a1_haters])), (q_bytes, .inl (g.2.1, 120, .inl f_bytes)), (q_a1_haters, .inl (g.2.1, 6, .inl u7.2))] := hD.sub [2, 0, 3, 1] (by decide) rfl
          cases hres
          exact ret_z C0 (nar01 c9) hP hD hS dX1_readHate_67
        · have hres := it_t hres c6
          refine lv_iconst (v := 0) hx hb dX1_readHate_52 (by decide) ?_
          have hP : va_P g.1 vwCl [(q_this, .inr (1, [.ref q_bytes, .int v_length, .int u4.2.1, .int u4.2.2.1, .int u4.2.2.2.1, .int u4.2.2.2.2])), (q_a1, .inr (4, [.int v_a1_keepers, .int v_a1_hates, .int v_a1_sight, .int v_a1_sightTold, .ref q_a1_flashes, .ref q_a1_haters])), (q_bytes, .inl (g.2.1, 120, .inl f_bytes)), (q_a1_haters, .inl (g.2.1, 6, .inl f_a1_haters))] H := hP.sub [2, 0, 3, 1] rfl
          have hD : va_D A [(q_this, .inr (1, [.ref q_bytes, .int v_length, .int u4.2.1, .int u4.2.2.1, .int u4.2.2.2.1, .int u4.2.2.2.2])), (q_a1, .inr (4, [.int v_a1_keepers, .int v_a1_hates, .int v_a1_sight, .int v_a1_sightTold, .ref q_a1_flashes, .ref q_a1_haters])), (q_bytes, .inl (g.2.1, 120, .inl f_bytes)), (q_a1_haters, .inl (g.2.1, 6, .inl f_a1_haters))] := hD.sub [2, 0, 3, 1] (by decide) rfl
          cases hres
          exact ret_z C0 (v := 0) rfl hP hD hS dX1_readHate_53
    · have hres := it_t hres c3
      refine lv_iconst (v := 0) hx hb dX1_readHate_23 (by decide) ?_
      have hP : va_P g.1 vwCl [(q_this, .inr (1, [.ref q_bytes, .int v_length, .int u2.2.1, .int u2.2.2.1, .int u2.2.2.2.1, .int u2.2.2.2.2])), (q_a1, .inr (4, [.int v_a1_keepers, .int v_a1_hates, .int v_a1_sight, .int v_a1_sightTold, .ref q_a1_flashes, .ref q_a1_haters])), (q_bytes, .inl (g.2.1, 120, .inl f_bytes)), (q_a1_haters, .inl (g.2.1, 6, .inl f_a1_haters))] H := hP.sub [2, 0, 3, 1] rfl
      have hD : va_D A [(q_this, .inr (1, [.ref q_bytes, .int v_length, .int u2.2.1, .int u2.2.2.1, .int u2.2.2.2.1, .int u2.2.2.2.2])), (q_a1, .inr (4, [.int v_a1_keepers, .int v_a1_hates, .int v_a1_sight, .int v_a1_sightTold, .ref q_a1_flashes, .ref q_a1_haters])), (q_bytes, .inl (g.2.1, 120, .inl f_bytes)), (q_a1_haters, .inl (g.2.1, 6, .inl f_a1_haters))] := hD.sub [2, 0, 3, 1] (by decide) rfl
      cases hres
      exact ret_z C0 (v := 0) rfl hP hD hS dX1_readHate_24
set_option maxHeartbeats 4000000 in
set_option maxRecDepth 100000 in
theorem c_X4_addKeeper (l : Launch) (g : gG) {q_this q_flashes q_haters : Nat} {v_keepers : Int32} {v_hates : Int32} {v_sight : Int32} {v_sightTold : Int32} {f_flashes : Nat → Int32} {x1 : Int32} {u0 : Int32 × (Nat → Int32)} (hres : f_X4_addKeeper v_keepers f_flashes x1 = some u0) : Cv l g yX4_addKeeper wsX4_addKeeper rm_X4_addKeeper [.ref q_this, .int x1] [(q_this, .inr (4, [.int v_keepers, .int v_hates, .int v_sight, .int v_sightTold, .ref q_flashes, .ref q_haters])), (q_flashes, .inl (g.2.1, 6, .inl f_flashes))] [(q_this, .inr (4, [.int u0.1, .int v_hates, .int v_sight, .int v_sightTold, .ref q_flashes, .ref q_haters])), (q_flashes, .inl (g.2.1, 6, .inl u0.2))] := by
  intro sz
  refine gBody (Qf := fun A => gQv g [(q_this, .inr (4, [.int u0.1, .int v_hates, .int v_sight, .int v_sightTold, .ref q_flashes, .ref q_haters])), (q_flashes, .inl (g.2.1, 6, .inl u0.2))] A) (cc := cX4_addKeeper) (maxL := 2) (ret := none) (own := RX4) (by decide +kernel) rfl rfl (Nat.le_of_ble_eq_true rfl) ?_
  intro p e s m args below meth c A C0 H hS hD hP ls hl
  obtain ⟨hx, hb, hml, hown, hts, hr, hlk, hN, hK, hF, hA⟩ := id C0
  have hl : lv_has ls 2 [(0, .ref q_this), (1, .int x1)] := hl
  unfold f_X4_addKeeper at hres
  refine lv_aload_n hx hb dX4_addKeeper_0 rfl (lv_at hl 0 rfl) ?_
  refine va_get (D := g.1) (ci := 4) (v := .ref q_flashes) (C := RX4) (T := TX4) (N := 6) hx hb hts in_X4_addKeeper_X4 hown hK hP 0 rfl rfl 4 (by decide) (hts (.fieldLink RX4 15 "LightKeepers$Told" "flashes" "[I") (List.mem_of_getElem? (i := 1) rfl)) (fun _ h9 => h9) rfl dX4_addKeeper_1 ?_
  refine lv_aload_n hx hb dX4_addKeeper_4 rfl (lv_at hl 0 rfl) ?_
  refine va_get (D := g.1) (ci := 4) (v := .int v_keepers) (C := RX4) (T := TX4) (N := 6) hx hb hts in_X4_addKeeper_X4 hown hK hP 0 rfl rfl 0 (by decide) (hts (.fieldLink RX4 22 "LightKeepers$Told" "keepers" "I") (List.mem_of_getElem? (i := 2) rfl)) (fun _ h9 => h9) rfl dX4_addKeeper_5 ?_
  refine lv_iload_n hx hb dX4_addKeeper_8 rfl (lv_at hl 1 rfl) ?_
  obtain ⟨u1, hu1, hres⟩ := bd hres
  refine k_v C0 (run_SN (As := [.ref q_flashes, .int v_keepers, .int x1]) (rest := []) C0 (c_X6_put l g (q_a0 := q_flashes) (n_a0 := 6) (f_a0 := f_flashes) (x1 := v_keepers) (x2 := x1) (u0 := u1) hu1 _) 3 gX4_addKeeper_X6_put_n44 rfl rfl rfl (List.mem_of_getElem? (i := 12) rfl) (List.mem_of_getElem? (i := 3) rfl) (List.mem_of_getElem? (i := 4) rfl) hd_X6_put ⟨Nat.le_of_ble_eq_true rfl, Nat.le_of_ble_eq_true rfl⟩ hP hD hS [1] rfl rfl rfl hl.1 rfl (Nat.le_of_ble_eq_true rfl) ⟨Nat.zero_le _, Nat.zero_le _⟩ dX4_addKeeper_9) hP hD hS [1] [0] rfl rfl rfl (by decide) (fun H locs hP hD hS => ?_)
  have hP : va_P g.1 vwCl [(q_this, .inr (4, [.int v_keepers, .int v_hates, .int v_sight, .int v_sightTold, .ref q_flashes, .ref q_haters])), (q_flashes, .inl (g.2.1, 6, .inl u1))] H := hP
  have hD : va_D A [(q_this, .inr (4, [.int v_keepers, .int v_hates, .int v_sight, .int v_sightTold, .ref q_flashes, .ref q_haters])), (q_flashes, .inl (g.2.1, 6, .inl u1))] := hD
  refine lv_aload_n hx hb dX4_addKeeper_12 rfl (lv_at hl 0 rfl) ?_
  refine lv_dup hx hb dX4_addKeeper_13 rfl ?_
  refine va_get (D := g.1) (ci := 4) (v := .int v_keepers) (C := RX4) (T := TX4) (N := 6) hx hb hts in_X4_addKeeper_X4 hown hK hP 0 rfl rfl 0 (by decide) (hts (.fieldLink RX4 22 "LightKeepers$Told" "keepers" "I") (List.mem_of_getElem? (i := 2) rfl)) (fun _ h9 => h9) rfl dX4_addKeeper_14 ?_
  refine lv_iconst (v := 1) hx hb dX4_addKeeper_17 (by decide) ?_
  refine lv_iadd hx hb dX4_addKeeper_18 ?_
  refine va_put (D := g.1) (ci := 4) (v := .int (v_keepers + 1)) (ty := .int) (C := RX4) (T := TX4) (N := 6) hx hb hts in_X4_addKeeper_X4 tyX4 tyX4_ok nmX4 hown hK hP hD hS 0 rfl rfl 0 (by decide) (hts (.fieldLink RX4 22 "LightKeepers$Told" "keepers" "I") (List.mem_of_getElem? (i := 2) rfl)) (fun _ h9 => h9) rfl (tyX4_ok 0 (by decide)) rfl rfl (Nat.le_of_ble_eq_true rfl) dX4_addKeeper_19 (fun H locs hP hD hS => ?_)
  have hP : va_P g.1 vwCl [(q_this, .inr (4, [.int (v_keepers + 1), .int v_hates, .int v_sight, .int v_sightTold, .ref q_flashes, .ref q_haters])), (q_flashes, .inl (g.2.1, 6, .inl u1))] H := hP
  have hD : va_D A [(q_this, .inr (4, [.int (v_keepers + 1), .int v_hates, .int v_sight, .int v_sightTold, .ref q_flashes, .ref q_haters])), (q_flashes, .inl (g.2.1, 6, .inl u1))] := hD
  cases hres
  exact ret_v C0 hP hD hS dX4_addKeeper_22
set_option maxHeartbeats 4000000 in
set_option maxRecDepth 100000 in
theorem c_X1_readKeeper (l : Launch) (g : gG) {q_this q_bytes q_a1 q_a1_flashes q_a1_haters : Nat} {v_length : Int32} {v_place : Int32} {v_end : Int32} {v_token : Int32} {v_value : Int32} {v_a1_keepers : Int32} {v_a1_hates : Int32} {v_a1_sight : Int32} {v_a1_sightTold : Int32} {f_bytes : Nat → Int32} {f_a1_flashes : Nat → Int32} {u0 : Int32 × Int32 × Int32 × Int32 × Int32 × Int32 × (Nat → Int32)} (hres : f_X1_readKeeper v_length v_place v_end v_token v_value v_a1_keepers f_bytes f_a1_flashes = some u0) : Ci l g yX1_readKeeper wsX1_readKeeper rm_X1_readKeeper [.ref q_this, .ref q_a1] [(q_this, .inr (1, [.ref q_bytes, .int v_length, .int v_place, .int v_end, .int v_token, .int v_value])), (q_a1, .inr (4, [.int v_a1_keepers, .int v_a1_hates, .int v_a1_sight, .int v_a1_sightTold, .ref q_a1_flashes, .ref q_a1_haters])), (q_bytes, .inl (g.2.1, 120, .inl f_bytes)), (q_a1_flashes, .inl (g.2.1, 6, .inl f_a1_flashes))] [(q_this, .inr (1, [.ref q_bytes, .int v_length, .int u0.2.1, .int u0.2.2.1, .int u0.2.2.2.1, .int u0.2.2.2.2.1])), (q_a1, .inr (4, [.int u0.2.2.2.2.2.1, .int v_a1_hates, .int v_a1_sight, .int v_a1_sightTold, .ref q_a1_flashes, .ref q_a1_haters])), (q_bytes, .inl (g.2.1, 120, .inl f_bytes)), (q_a1_flashes, .inl (g.2.1, 6, .inl u0.2.2.2.2.2.2))] u0.1 := by
  intro sz
  refine gBody (Qf := fun A => gQi g [(q_this, .inr (1, [.ref q_bytes, .int v_length, .int u0.2.1, .int u0.2.2.1, .int u0.2.2.2.1, .int u0.2.2.2.2.1])), (q_a1, .inr (4, [.int u0.2.2.2.2.2.1, .int v_a1_hates, .int v_a1_sight, .int v_a1_sightTold, .ref q_a1_flashes, .ref q_a1_haters])), (q_bytes, .inl (g.2.1, 120, .inl f_bytes)), (q_a1_flashes, .inl (g.2.1, 6, .inl u0.2.2.2.2.2.2))] u0.1 A) (cc := cX1_readKeeper) (maxL := 2) (ret := (some .boolean)) (own := RX1) (by decide +kernel) rfl rfl (Nat.le_of_ble_eq_true rfl) ?_
  intro p e s m args below meth c A C0 H hS hD hP ls hl
  obtain ⟨hx, hb, hml, hown, hts, hr, hlk, hN, hK, hF, hA⟩ := id C0
  have hl : lv_has ls 2 [(0, .ref q_this), (1, .ref q_a1)] := hl
  unfold f_X1_readKeeper at hres
  refine lv_aload_n hx hb dX1_readKeeper_0 rfl (lv_at hl 1 rfl) ?_
  refine va_get (D := g.1) (ci := 4) (v := .int v_a1_keepers) (C := RX4) (T := TX4) (N := 6) hx hb hts in_X1_readKeeper_X4 hown hK hP 1 rfl rfl 0 (by decide) (hts (.fieldLink RX1 50 "LightKeepers$Told" "keepers" "I") (List.mem_of_getElem? (i := 1) rfl)) (fun _ h9 => h9) rfl dX1_readKeeper_1 ?_
  refine lv_bipush (v := 6) hx hb dX1_readKeeper_4 (by decide) ?_
  refine lv_icmp_ge (tgt := 19) hx hb dX1_readKeeper_6 (by decide) (fun c1 => ?_) (fun c1 => ?_)
  · have hres := it_t hres c1
    refine lv_iconst (v := 0) hx hb dX1_readKeeper_19 (by decide) ?_
    cases hres
    exact ret_z C0 (v := 0) rfl hP hD hS dX1_readKeeper_20
  · have hres := it_f hres c1
    refine lv_aload_n hx hb dX1_readKeeper_9 rfl (lv_at hl 0 rfl) ?_
    refine lv_iconst (v := 1) hx hb dX1_readKeeper_10 (by decide) ?_
    refine lv_bipush (v := 9) hx hb dX1_readKeeper_11 (by decide) ?_
    obtain ⟨u2, hu2, hres⟩ := bd hres
    refine k_i C0 (run_V (As := [.int 1, .int 9]) (rest := []) C0 (c_X1_readNumber l g (q_this := q_this) (q_bytes := q_bytes) (v_length := v_length) (v_place := v_place) (v_end := v_end) (v_token := v_token) (v_value := v_value) (f_bytes := f_bytes) (x1 := 1) (x2 := 9) (u0 := u2) hu2 _) 2 gX1_readKeeper_X1_readNumber rfl rfl rfl hd_X1_readNumber ⟨Nat.le_of_ble_eq_true rfl, Nat.le_of_ble_eq_true rfl⟩ hP hD hS [0, 2] rfl rfl 0 1 rfl rfl rfl hl.1 rfl (Nat.le_of_ble_eq_true rfl) ⟨Nat.zero_le _, Nat.zero_le _⟩ dX1_readKeeper_13) hP hD hS [0, 2] [1, 3] rfl rfl rfl (by decide) (fun H locs hP hD hS => ?_)
    have hP : va_P g.1 vwCl [(q_a1, .inr (4, [.int v_a1_keepers, .int v_a1_hates, .int v_a1_sight, .int v_a1_sightTold, .ref q_a1_flashes, .ref q_a1_haters])), (q_a1_flashes, .inl (g.2.1, 6, .inl f_a1_flashes)), (q_this, .inr (1, [.ref q_bytes, .int v_length, .int u2.2.1, .int u2.2.2.1, .int u2.2.2.2.1, .int u2.2.2.2.2])), (q_bytes, .inl (g.2.1, 120, .inl f_bytes))] H := hP
    have hD : va_D A [(q_a1, .inr (4, [.int v_a1_keepers, .int v_a1_hates, .int v_a1_sight, .int v_a1_sightTold, .ref q_a1_flashes, .ref q_a1_haters])), (q_a1_flashes, .inl (g.2.1, 6, .inl f_a1_flashes)), (q_this, .inr (1, [.ref q_bytes, .int v_length, .int u2.2.1, .int u2.2.2.1, .int u2.2.2.2.1, .int u2.2.2.2.2])), (q_bytes, .inl (g.2.1, 120, .inl f_bytes))] := hD
    refine lv_if_ne (tgt := 21) hx hb dX1_readKeeper_16 (by decide) (fun c3 => ?_) (fun c3 => ?_)
    · have hres := it_f hres c3
      refine lv_aload_n hx hb dX1_readKeeper_21 rfl (lv_at hl 1 rfl) ?_
      refine lv_aload_n hx hb dX1_readKeeper_22 rfl (lv_at hl 0 rfl) ?_
      refine va_get (D := g.1) (ci := 1) (v := .int u2.2.2.2.2) (C := RX1) (T := TX1) (N := 6) hx hb hts in_X1_readKeeper_X1 hown hK hP 2 rfl rfl 5 (by decide) (hts (.fieldLink RX1 37 "LightKeepers$Reader" "value" "I") (List.mem_of_getElem? (i := 2) rfl)) (fun _ h9 => h9) rfl dX1_readKeeper_23 ?_
      obtain ⟨u4, hu4, hres⟩ := bd hres
      refine k_v C0 (run_V (As := [.int u2.2.2.2.2]) (rest := []) C0 (c_X4_addKeeper l g (q_this := q_a1) (q_flashes := q_a1_flashes) (q_haters := q_a1_haters) (v_keepers := v_a1_keepers) (v_hates := v_a1_hates) (v_sight := v_a1_sight) (v_sightTold := v_a1_sightTold) (f_flashes := f_a1_flashes) (x1 := u2.2.2.2.2) (u0 := u4) hu4 _) 1 gX1_readKeeper_X4_addKeeper rfl rfl rfl hd_X4_addKeeper ⟨Nat.le_of_ble_eq_true rfl, Nat.le_of_ble_eq_true rfl⟩ hP hD hS [0, 1] rfl rfl 0 4 rfl rfl rfl hl.1 rfl (Nat.le_of_ble_eq_true rfl) ⟨Nat.zero_le _, Nat.zero_le _⟩ dX1_readKeeper_26) hP hD hS [0, 1] [2, 3] rfl rfl rfl (by decide) (fun H locs hP hD hS => ?_)
      have hP : va_P g.1 vwCl [(q_this, .inr (1, [.ref q_bytes, .int v_length, .int u2.2.1, .int u2.2.2.1, .int u2.2.2.2.1, .int u2.2.2.2.2])), (q_bytes, .inl (g.2.1, 120, .inl f_bytes)), (q_a1, .inr (4, [.int u4.1, .int v_a1_hates, .int v_a1_sight, .int v_a1_sightTold, .ref q_a1_flashes, .ref q_a1_haters])), (q_a1_flashes, .inl (g.2.1, 6, .inl u4.2))] H := hP
      have hD : va_D A [(q_this, .inr (1, [.ref q_bytes, .int v_length, .int u2.2.1, .int u2.2.2.1, .int u2.2.2.2.1, .int u2.2.2.2.2])), (q_bytes, .inl (g.2.1, 120, .inl f_bytes)), (q_a1, .inr (4, [.int u4.1, .int v_a1_hates, .int v_a1_sight, .int v_a1_sightTold, .ref q_a1_flashes, .ref q_a1_haters])), (q_a1_flashes, .inl (g.2.1, 6, .inl u4.2))] := hD
      refine lv_aload_n hx hb dX1_readKeeper_29 rfl (lv_at hl 0 rfl) ?_
      obtain ⟨u5, hu5, hres⟩ := bd hres
      refine k_i C0 (run_V (As := []) (rest := []) C0 (c_X1_readSemicolon l g (q_this := q_this) (q_bytes := q_bytes) (v_length := v_length) (v_place := u2.2.1) (v_end := u2.2.2.1) (v_token := u2.2.2.2.1) (v_value := u2.2.2.2.2) (f_bytes := f_bytes) (u0 := u5) hu5 _) 0 gX1_readKeeper_X1_readSemicolon rfl rfl rfl hd_X1_readSemicolon ⟨Nat.le_of_ble_eq_true rfl, Nat.le_of_ble_eq_true rfl⟩ hP hD hS [0, 1] rfl rfl 0 1 rfl rfl rfl hl.1 rfl (Nat.le_of_ble_eq_true rfl) ⟨Nat.zero_le _, Nat.zero_le _⟩ dX1_readKeeper_30) hP hD hS [0, 1] [2, 3] rfl rfl rfl (by decide) (fun H locs hP hD hS => ?_)
      have hP : va_P g.1 vwCl [(q_a1, .inr (4, [.int u4.1, .int v_a1_hates, .int v_a1_sight, .int v_a1_sightTold, .ref q_a1_flashes, .ref q_a1_haters])), (q_a1_flashes, .inl (g.2.1, 6, .inl u4.2)), (q_this, .inr (1, [.ref q_bytes, .int v_length, .int u5.2.1, .int u5.2.2.1, .int u5.2.2.2.1, .int u5.2.2.2.2])), (q_bytes, .inl (g.2.1, 120, .inl f_bytes))] H := hP
      have hD : va_D A [(q_a1, .inr (4, [.int u4.1, .int v_a1_hates, .int v_a1_sight, .int v_a1_sightTold, .ref q_a1_flashes, .ref q_a1_haters])), (q_a1_flashes, .inl (g.2.1, 6, .inl u4.2)), (q_this, .inr (1, [.ref q_bytes, .int v_length, .int u5.2.1, .int u5.2.2.1, .int u5.2.2.2.1, .int u5.2.2.2.2])), (q_bytes, .inl (g.2.1, 120, .inl f_bytes))] := hD
      have c6 := gd1 hres
      have hres := gd2 hres
      have hP : va_P g.1 vwCl [(q_this, .inr (1, [.ref q_bytes, .int v_length, .int u5.2.1, .int u5.2.2.1, .int u5.2.2.2.1, .int u5.2.2.2.2])), (q_a1, .inr (4, [.int u4.1, .int v_a1_hates, .int v_a1_sight, .int v_a1_sightTold, .ref q_a1_flashes, .ref q_a1_haters])), (q_bytes, .inl (g.2.1, 120, .inl f_bytes)), (q_a1_flashes, .inl (g.2.1, 6, .inl u4.2))] H := hP.sub [2, 0, 3, 1] rfl
      have hD : va_D A [(q_this, .inr (1, [.ref q_bytes, .int v_length, .int u5.2.1, .int u5.2.2.1, .int u5.2.2.2.1, .int u5.2.2.2.2])), (q_a1, .inr (4, [.int u4.1, .int v_a1_hates, .int v_a1_sight, .int v_a1_sightTold, .ref q_a1_flashes, .ref q_a1_haters])), (q_bytes, .inl (g.2.1, 120, .inl f_bytes)), (q_a1_flashes, .inl (g.2.1, 6, .inl u4.2))] := hD.sub [2, 0, 3, 1] (by decide) rfl
      cases hres
      exact ret_z C0 (nar01 c6) hP hD hS dX1_readKeeper_33
    · have hres := it_t hres c3
      refine lv_iconst (v := 0) hx hb dX1_readKeeper_19 (by decide) ?_
      have hP : va_P g.1 vwCl [(q_this, .inr (1, [.ref q_bytes, .int v_length, .int u2.2.1, .int u2.2.2.1, .int u2.2.2.2.1, .int u2.2.2.2.2])), (q_a1, .inr (4, [.int v_a1_keepers, .int v_a1_hates, .int v_a1_sight, .int v_a1_sightTold, .ref q_a1_flashes, .ref q_a1_haters])), (q_bytes, .inl (g.2.1, 120, .inl f_bytes)), (q_a1_flashes, .inl (g.2.1, 6, .inl f_a1_flashes))] H := hP.sub [2, 0, 3, 1] rfl
      have hD : va_D A [(q_this, .inr (1, [.ref q_bytes, .int v_length, .int u2.2.1, .int u2.2.2.1, .int u2.2.2.2.1, .int u2.2.2.2.2])), (q_a1, .inr (4, [.int v_a1_keepers, .int v_a1_hates, .int v_a1_sight, .int v_a1_sightTold, .ref q_a1_flashes, .ref q_a1_haters])), (q_bytes, .inl (g.2.1, 120, .inl f_bytes)), (q_a1_flashes, .inl (g.2.1, 6, .inl f_a1_flashes))] := hD.sub [2, 0, 3, 1] (by decide) rfl
      cases hres
      exact ret_z C0 (v := 0) rfl hP hD hS dX1_readKeeper_20
set_option maxHeartbeats 4000000 in
set_option maxRecDepth 100000 in
theorem c_X4_tellSight (l : Launch) (g : gG) {q_this q_flashes q_haters : Nat} {v_keepers : Int32} {v_hates : Int32} {v_sight : Int32} {v_sightTold : Int32} {x1 : Int32} {u0 : Int32 × Int32} (hres : f_X4_tellSight x1 = some u0) : Cv l g yX4_tellSight wsX4_tellSight rm_X4_tellSight [.ref q_this, .int x1] [(q_this, .inr (4, [.int v_keepers, .int v_hates, .int v_sight, .int v_sightTold, .ref q_flashes, .ref q_haters]))] [(q_this, .inr (4, [.int v_keepers, .int v_hates, .int u0.1, .int u0.2, .ref q_flashes, .ref q_haters]))] := by
  intro sz
  refine gBody (Qf := fun A => gQv g [(q_this, .inr (4, [.int v_keepers, .int v_hates, .int u0.1, .int u0.2, .ref q_flashes, .ref q_haters]))] A) (cc := cX4_tellSight) (maxL := 2) (ret := none) (own := RX4) (by decide +kernel) rfl rfl (Nat.le_of_ble_eq_true rfl) ?_
  intro p e s m args below meth c A C0 H hS hD hP ls hl
  obtain ⟨hx, hb, hml, hown, hts, hr, hlk, hN, hK, hF, hA⟩ := id C0
  have hl : lv_has ls 2 [(0, .ref q_this), (1, .int x1)] := hl
  unfold f_X4_tellSight at hres
  refine lv_aload_n hx hb dX4_tellSight_0 rfl (lv_at hl 0 rfl) ?_
  refine lv_iload_n hx hb dX4_tellSight_1 rfl (lv_at hl 1 rfl) ?_
  refine va_put (D := g.1) (ci := 4) (v := .int x1) (ty := .int) (C := RX4) (T := TX4) (N := 6) hx hb hts in_X4_tellSight_X4 tyX4 tyX4_ok nmX4 hown hK hP hD hS 0 rfl rfl 2 (by decide) (hts (.fieldLink RX4 9 "LightKeepers$Told" "sight" "I") (List.mem_of_getElem? (i := 1) rfl)) (fun _ h9 => h9) rfl (tyX4_ok 2 (by decide)) rfl rfl (Nat.le_of_ble_eq_true rfl) dX4_tellSight_2 (fun H locs hP hD hS => ?_)
  have hP : va_P g.1 vwCl [(q_this, .inr (4, [.int v_keepers, .int v_hates, .int x1, .int v_sightTold, .ref q_flashes, .ref q_haters]))] H := hP
  have hD : va_D A [(q_this, .inr (4, [.int v_keepers, .int v_hates, .int x1, .int v_sightTold, .ref q_flashes, .ref q_haters]))] := hD
  refine lv_aload_n hx hb dX4_tellSight_5 rfl (lv_at hl 0 rfl) ?_
  refine lv_iconst (v := 1) hx hb dX4_tellSight_6 (by decide) ?_
  refine va_put (D := g.1) (ci := 4) (v := .int 1) (ty := .boolean) (C := RX4) (T := TX4) (N := 6) hx hb hts in_X4_tellSight_X4 tyX4 tyX4_ok nmX4 hown hK hP hD hS 0 rfl rfl 3 (by decide) (hts (.fieldLink RX4 28 "LightKeepers$Told" "sightTold" "Z") (List.mem_of_getElem? (i := 2) rfl)) (fun _ h9 => h9) rfl (tyX4_ok 3 (by decide)) rfl rfl (Nat.le_of_ble_eq_true rfl) dX4_tellSight_7 (fun H locs hP hD hS => ?_)
  have hP : va_P g.1 vwCl [(q_this, .inr (4, [.int v_keepers, .int v_hates, .int x1, .int 1, .ref q_flashes, .ref q_haters]))] H := hP
  have hD : va_D A [(q_this, .inr (4, [.int v_keepers, .int v_hates, .int x1, .int 1, .ref q_flashes, .ref q_haters]))] := hD
  cases hres
  exact ret_v C0 hP hD hS dX4_tellSight_10
set_option maxHeartbeats 4000000 in
set_option maxRecDepth 100000 in
theorem c_X1_readSight (l : Launch) (g : gG) {q_this q_bytes q_a1 q_a1_flashes q_a1_haters : Nat} {v_length : Int32} {v_place : Int32} {v_end : Int32} {v_token : Int32} {v_value : Int32} {v_a1_keepers : Int32} {v_a1_hates : Int32} {v_a1_sight : Int32} {v_a1_sightTold : Int32} {f_bytes : Nat → Int32} {u0 : Int32 × Int32 × Int32 × Int32 × Int32 × Int32 × Int32} (hres : f_X1_readSight v_length v_place v_end v_token v_value v_a1_sight v_a1_sightTold f_bytes = some u0) : Ci l g yX1_readSight wsX1_readSight rm_X1_readSight [.ref q_this, .ref q_a1] [(q_this, .inr (1, [.ref q_bytes, .int v_length, .int v_place, .int v_end, .int v_token, .int v_value])), (q_a1, .inr (4, [.int v_a1_keepers, .int v_a1_hates, .int v_a1_sight, .int v_a1_sightTold, .ref q_a1_flashes, .ref q_a1_haters])), (q_bytes, .inl (g.2.1, 120, .inl f_bytes))] [(q_this, .inr (1, [.ref q_bytes, .int v_length, .int u0.2.1, .int u0.2.2.1, .int u0.2.2.2.1, .int u0.2.2.2.2.1])), (q_a1, .inr (4, [.int v_a1_keepers, .int v_a1_hates, .int u0.2.2.2.2.2.1, .int u0.2.2.2.2.2.2, .ref q_a1_flashes, .ref q_a1_haters])), (q_bytes, .inl (g.2.1, 120, .inl f_bytes))] u0.1 := by
  intro sz
  refine gBody (Qf := fun A => gQi g [(q_this, .inr (1, [.ref q_bytes, .int v_length, .int u0.2.1, .int u0.2.2.1, .int u0.2.2.2.1, .int u0.2.2.2.2.1])), (q_a1, .inr (4, [.int v_a1_keepers, .int v_a1_hates, .int u0.2.2.2.2.2.1, .int u0.2.2.2.2.2.2, .ref q_a1_flashes, .ref q_a1_haters])), (q_bytes, .inl (g.2.1, 120, .inl f_bytes))] u0.1 A) (cc := cX1_readSight) (maxL := 2) (ret := (some .boolean)) (own := RX1) (by decide +kernel) rfl rfl (Nat.le_of_ble_eq_true rfl) ?_
  intro p e s m args below meth c A C0 H hS hD hP ls hl
  obtain ⟨hx, hb, hml, hown, hts, hr, hlk, hN, hK, hF, hA⟩ := id C0
  have hl : lv_has ls 2 [(0, .ref q_this), (1, .ref q_a1)] := hl
  unfold f_X1_readSight at hres
  refine lv_aload_n hx hb dX1_readSight_0 rfl (lv_at hl 1 rfl) ?_
  refine va_get (D := g.1) (ci := 4) (v := .int v_a1_sightTold) (C := RX4) (T := TX4) (N := 6) hx hb hts in_X1_readSight_X4 hown hK hP 1 rfl rfl 3 (by decide) (hts (.fieldLink RX1 72 "LightKeepers$Told" "sightTold" "Z") (List.mem_of_getElem? (i := 1) rfl)) (fun _ h9 => h9) rfl dX1_readSight_1 ?_
  refine lv_if_ne (tgt := 16) hx hb dX1_readSight_4 (by decide) (fun c1 => ?_) (fun c1 => ?_)
  · have hres := it_f hres c1
    refine lv_iconst (v := 0) hx hb dX1_readSight_16 (by decide) ?_
    cases hres
    exact ret_z C0 (v := 0) rfl hP hD hS dX1_readSight_17
  · have hres := it_t hres c1
    refine lv_aload_n hx hb dX1_readSight_7 rfl (lv_at hl 0 rfl) ?_
    refine lv_iconst (v := 0) hx hb dX1_readSight_8 (by decide) ?_
    refine lv_iconst (v := 5) hx hb dX1_readSight_9 (by decide) ?_
    obtain ⟨u2, hu2, hres⟩ := bd hres
    refine k_i C0 (run_V (As := [.int 0, .int 5]) (rest := []) C0 (c_X1_readNumber l g (q_this := q_this) (q_bytes := q_bytes) (v_length := v_length) (v_place := v_place) (v_end := v_end) (v_token := v_token) (v_value := v_value) (f_bytes := f_bytes) (x1 := 0) (x2 := 5) (u0 := u2) hu2 _) 2 gX1_readSight_X1_readNumber rfl rfl rfl hd_X1_readNumber ⟨Nat.le_of_ble_eq_true rfl, Nat.le_of_ble_eq_true rfl⟩ hP hD hS [0, 2] rfl rfl 0 1 rfl rfl rfl hl.1 rfl (Nat.le_of_ble_eq_true rfl) ⟨Nat.zero_le _, Nat.zero_le _⟩ dX1_readSight_10) hP hD hS [0, 2] [1] rfl rfl rfl (by decide) (fun H locs hP hD hS => ?_)
    have hP : va_P g.1 vwCl [(q_a1, .inr (4, [.int v_a1_keepers, .int v_a1_hates, .int v_a1_sight, .int v_a1_sightTold, .ref q_a1_flashes, .ref q_a1_haters])), (q_this, .inr (1, [.ref q_bytes, .int v_length, .int u2.2.1, .int u2.2.2.1, .int u2.2.2.2.1, .int u2.2.2.2.2])), (q_bytes, .inl (g.2.1, 120, .inl f_bytes))] H := hP
    have hD : va_D A [(q_a1, .inr (4, [.int v_a1_keepers, .int v_a1_hates, .int v_a1_sight, .int v_a1_sightTold, .ref q_a1_flashes, .ref q_a1_haters])), (q_this, .inr (1, [.ref q_bytes, .int v_length, .int u2.2.1, .int u2.2.2.1, .int u2.2.2.2.1, .int u2.2.2.2.2])), (q_bytes, .inl (g.2.1, 120, .inl f_bytes))] := hD
    refine lv_if_ne (tgt := 18) hx hb dX1_readSight_13 (by decide) (fun c3 => ?_) (fun c3 => ?_)
    · have hres := it_f hres c3
      refine lv_aload_n hx hb dX1_readSight_18 rfl (lv_at hl 1 rfl) ?_
      refine lv_aload_n hx hb dX1_readSight_19 rfl (lv_at hl 0 rfl) ?_
      refine va_get (D := g.1) (ci := 1) (v := .int u2.2.2.2.2) (C := RX1) (T := TX1) (N := 6) hx hb hts in_X1_readSight_X1 hown hK hP 1 rfl rfl 5 (by decide) (hts (.fieldLink RX1 37 "LightKeepers$Reader" "value" "I") (List.mem_of_getElem? (i := 2) rfl)) (fun _ h9 => h9) rfl dX1_readSight_20 ?_
      obtain ⟨u4, hu4, hres⟩ := bd hres
      refine k_v C0 (run_V (As := [.int u2.2.2.2.2]) (rest := []) C0 (c_X4_tellSight l g (q_this := q_a1) (q_flashes := q_a1_flashes) (q_haters := q_a1_haters) (v_keepers := v_a1_keepers) (v_hates := v_a1_hates) (v_sight := v_a1_sight) (v_sightTold := v_a1_sightTold) (x1 := u2.2.2.2.2) (u0 := u4) hu4 _) 1 gX1_readSight_X4_tellSight rfl rfl rfl hd_X4_tellSight ⟨Nat.le_of_ble_eq_true rfl, Nat.le_of_ble_eq_true rfl⟩ hP hD hS [0] rfl rfl 0 4 rfl rfl rfl hl.1 rfl (Nat.le_of_ble_eq_true rfl) ⟨Nat.zero_le _, Nat.zero_le _⟩ dX1_readSight_23) hP hD hS [0] [1, 2] rfl rfl rfl (by decide) (fun H locs hP hD hS => ?_)
      have hP : va_P g.1 vwCl [(q_this, .inr (1, [.ref q_bytes, .int v_length, .int u2.2.1, .int u2.2.2.1, .int u2.2.2.2.1, .int u2.2.2.2.2])), (q_bytes, .inl (g.2.1, 120, .inl f_bytes)), (q_a1, .inr (4, [.int v_a1_keepers, .int v_a1_hates, .int u4.1, .int u4.2, .ref q_a1_flashes, .ref q_a1_haters]))] H := hP
      have hD : va_D A [(q_this, .inr (1, [.ref q_bytes, .int v_length, .int u2.2.1, .int u2.2.2.1, .int u2.2.2.2.1, .int u2.2.2.2.2])), (q_bytes, .inl (g.2.1, 120, .inl f_bytes)), (q_a1, .inr (4, [.int v_a1_keepers, .int v_a1_hates, .int u4.1, .int u4.2, .ref q_a1_flashes, .ref q_a1_haters]))] := hD
      refine lv_aload_n hx hb dX1_readSight_26 rfl (lv_at hl 0 rfl) ?_
      obtain ⟨u5, hu5, hres⟩ := bd hres
      refine k_i C0 (run_V (As := []) (rest := []) C0 (c_X1_readSemicolon l g (q_this := q_this) (q_bytes := q_bytes) (v_length := v_length) (v_place := u2.2.1) (v_end := u2.2.2.1) (v_token := u2.2.2.2.1) (v_value := u2.2.2.2.2) (f_bytes := f_bytes) (u0 := u5) hu5 _) 0 gX1_readSight_X1_readSemicolon rfl rfl rfl hd_X1_readSemicolon ⟨Nat.le_of_ble_eq_true rfl, Nat.le_of_ble_eq_true rfl⟩ hP hD hS [0, 1] rfl rfl 0 1 rfl rfl rfl hl.1 rfl (Nat.le_of_ble_eq_true rfl) ⟨Nat.zero_le _, Nat.zero_le _⟩ dX1_readSight_27) hP hD hS [0, 1] [2] rfl rfl rfl (by decide) (fun H locs hP hD hS => ?_)
      have hP : va_P g.1 vwCl [(q_a1, .inr (4, [.int v_a1_keepers, .int v_a1_hates, .int u4.1, .int u4.2, .ref q_a1_flashes, .ref q_a1_haters])), (q_this, .inr (1, [.ref q_bytes, .int v_length, .int u5.2.1, .int u5.2.2.1, .int u5.2.2.2.1, .int u5.2.2.2.2])), (q_bytes, .inl (g.2.1, 120, .inl f_bytes))] H := hP
      have hD : va_D A [(q_a1, .inr (4, [.int v_a1_keepers, .int v_a1_hates, .int u4.1, .int u4.2, .ref q_a1_flashes, .ref q_a1_haters])), (q_this, .inr (1, [.ref q_bytes, .int v_length, .int u5.2.1, .int u5.2.2.1, .int u5.2.2.2.1, .int u5.2.2.2.2])), (q_bytes, .inl (g.2.1, 120, .inl f_bytes))] := hD
      have c6 := gd1 hres
      have hres := gd2 hres
      have hP : va_P g.1 vwCl [(q_this, .inr (1, [.ref q_bytes, .int v_length, .int u5.2.1, .int u5.2.2.1, .int u5.2.2.2.1, .int u5.2.2.2.2])), (q_a1, .inr (4, [.int v_a1_keepers, .int v_a1_hates, .int u4.1, .int u4.2, .ref q_a1_flashes, .ref q_a1_haters])), (q_bytes, .inl (g.2.1, 120, .inl f_bytes))] H := hP.sub [1, 0, 2] rfl
      have hD : va_D A [(q_this, .inr (1, [.ref q_bytes, .int v_length, .int u5.2.1, .int u5.2.2.1, .int u5.2.2.2.1, .int u5.2.2.2.2])), (q_a1, .inr (4, [.int v_a1_keepers, .int v_a1_hates, .int u4.1, .int u4.2, .ref q_a1_flashes, .ref q_a1_haters])), (q_bytes, .inl (g.2.1, 120, .inl f_bytes))] := hD.sub [1, 0, 2] (by decide) rfl
      cases hres
      exact ret_z C0 (nar01 c6) hP hD hS dX1_readSight_30
    · have hres := it_t hres c3
      refine lv_iconst (v := 0) hx hb dX1_readSight_16 (by decide) ?_
      have hP : va_P g.1 vwCl [(q_this, .inr (1, [.ref q_bytes, .int v_length, .int u2.2.1, .int u2.2.2.1, .int u2.2.2.2.1, .int u2.2.2.2.2])), (q_a1, .inr (4, [.int v_a1_keepers, .int v_a1_hates, .int v_a1_sight, .int v_a1_sightTold, .ref q_a1_flashes, .ref q_a1_haters])), (q_bytes, .inl (g.2.1, 120, .inl f_bytes))] H := hP.sub [1, 0, 2] rfl
      have hD : va_D A [(q_this, .inr (1, [.ref q_bytes, .int v_length, .int u2.2.1, .int u2.2.2.1, .int u2.2.2.2.1, .int u2.2.2.2.2])), (q_a1, .inr (4, [.int v_a1_keepers, .int v_a1_hates, .int v_a1_sight, .int v_a1_sightTold, .ref q_a1_flashes, .ref q_a1_haters])), (q_bytes, .inl (g.2.1, 120, .inl f_bytes))] := hD.sub [1, 0, 2] (by decide) rfl
      cases hres
      exact ret_z C0 (v := 0) rfl hP hD hS dX1_readSight_17
set_option maxHeartbeats 4000000 in
set_option maxRecDepth 100000 in
theorem w_J7_fill_53178_L5 {p : Program} {l : Launch} {e : Env} {s : State} {m : MethodId} {args : Array Value} {below : List Frame} {meth : Method} {c : Code} {g : gG} {A : Nat → Prop} {q_a0 : Nat} {n_a0 : Nat} {x1 : Int32} {x3 : Int32} {u0 : (Nat → Int32)} {k : Int32 → (Nat → Int32) → Option ((Nat → Int32))} {n : Nat} {x2 : Int32} {f_a0 : Nat → Int32} {H : Heap} {locs : List Loc} {ls : Array Slot} (C0 : Cx p s m args meth c RJ7 cJ7_fill_53178 4 wsJ7_fill_53178 none g A)
    (hP : va_P g.1 vwCl [(q_a0, .inl (g.2.1, n_a0, .inl f_a0))] H) (hD : va_D A [(q_a0, .inl (g.2.1, n_a0, .inl f_a0))]) (hS : va_S A s.heap H locs) (hl : lv_has ls 4 [(0, .ref q_a0), (1, .int x1), (2, .int x2), (3, .int x3)]) (hres : lp_J7_fill_53178_L5 n_a0 x1 x3 k n x2 f_a0 = some u0)
    (K : ∀ (x2 : Int32) (f_a0 : Nat → Int32) (H : Heap) (locs : List Loc) (ls : Array Slot), va_P g.1 vwCl [(q_a0, .inl (g.2.1, n_a0, .inl f_a0))] H → va_D A [(q_a0, .inl (g.2.1, n_a0, .inl f_a0))] → va_S A s.heap H locs → lv_has ls 4 [(0, .ref q_a0), (1, .int x1), (2, .int x2), (3, .int x3)] → k x2 f_a0 = some u0 → W p l e rm_J7_fill_53178 s m args below meth c H locs 0 0 (MQ below (gQv g [(q_a0, .inl (g.2.1, n_a0, .inl u0))] A) args s 0 0 A) (F0 m 20 ls [])) :
    W p l e rm_J7_fill_53178 s m args below meth c H locs 0 0 (MQ below (gQv g [(q_a0, .inl (g.2.1, n_a0, .inl u0))] A) args s 0 0 A) (F0 m 5 ls []) := by
  obtain ⟨hx, hb, hml, hown, hts, hr, hlk, hN, hK, hF, hA⟩ := id C0
  induction n generalizing x2 f_a0 H locs ls with
  | zero => cases hres
  | succ n ih =>
    unfold lp_J7_fill_53178_L5 at hres
    refine lv_iload_n hx hb dJ7_fill_53178_5 rfl (lv_at hl 2 rfl) ?_
    refine lv_iload_n hx hb dJ7_fill_53178_6 rfl (lv_at hl 3 rfl) ?_
    refine lv_icmp_ge (tgt := 20) hx hb dJ7_fill_53178_7 (by decide) (fun c1 => ?_) (fun c1 => ?_)
    · have hres := it_t hres c1
      exact K _ _ _ _ _ hP hD hS hl hres
    · have hres := it_f hres c1
      refine lv_aload_n hx hb dJ7_fill_53178_10 rfl (lv_at hl 0 rfl) ?_
      refine lv_iload_n hx hb dJ7_fill_53178_11 rfl (lv_at hl 2 rfl) ?_
      refine lv_iload_n hx hb dJ7_fill_53178_12 rfl (lv_at hl 1 rfl) ?_
      have c2 := gd1 hres
      have hres := gd2 hres
      refine va_iast hx hb hK hP hD hS 0 0 rfl rfl (show vp_in _ _ from c2) dJ7_fill_53178_13 (fun H locs hP hD hS => ?_)
      have hP : va_P g.1 vwCl [(q_a0, .inl (g.2.1, n_a0, .inl (upd f_a0 x2.toNatClampNeg x1)))] H := hP
      have hD : va_D A [(q_a0, .inl (g.2.1, n_a0, .inl (upd f_a0 x2.toNatClampNeg x1)))] := hD
      refine lv_iinc (v := (x2 + 1)) (lv' := [(2, .int (x2 + 1)), (0, .ref q_a0), (1, .int x1), (3, .int x3)]) hx hb dJ7_fill_53178_14 hl (k := 2) rfl rfl (by decide) rfl (fun ls hl => ?_)
      refine lv_goto (tgt := 5) hx hb dJ7_fill_53178_17 (by decide) ?_
      have hl : lv_has ls 4 [(0, .ref q_a0), (1, .int x1), (2, .int (x2 + 1)), (3, .int x3)] := lv_sub hl [1, 2, 0, 3] rfl
      exact ih hP hD hS hl hres
set_option maxHeartbeats 4000000 in
set_option maxRecDepth 100000 in
theorem c_J7_fill_53178 (l : Launch) (g : gG) {q_a0 : Nat} {n_a0 : Nat} {f_a0 : Nat → Int32} {x1 : Int32} {u0 : (Nat → Int32)} (hres : f_J7_fill_53178 n_a0 f_a0 x1 = some u0) : Cv l g yJ7_fill_53178 wsJ7_fill_53178 rm_J7_fill_53178 [.ref q_a0, .int x1] [(q_a0, .inl (g.2.1, n_a0, .inl f_a0))] [(q_a0, .inl (g.2.1, n_a0, .inl u0))] := by
  intro sz
  refine gBody (Qf := fun A => gQv g [(q_a0, .inl (g.2.1, n_a0, .inl u0))] A) (cc := cJ7_fill_53178) (maxL := 4) (ret := none) (own := RJ7) (by decide +kernel) rfl rfl (Nat.le_of_ble_eq_true rfl) ?_
  intro p e s m args below meth c A C0 H hS hD hP ls hl
  obtain ⟨hx, hb, hml, hown, hts, hr, hlk, hN, hK, hF, hA⟩ := id C0
  have hl : lv_has ls 4 [(0, .ref q_a0), (1, .int x1)] := hl
  unfold f_J7_fill_53178 at hres
  refine lv_iconst (v := 0) hx hb dJ7_fill_53178_0 (by decide) ?_
  refine lv_istore_n (lv' := [(2, .int 0), (0, .ref q_a0), (1, .int x1)]) hx hb dJ7_fill_53178_1 rfl hl (by decide) rfl (fun ls hl => ?_)
  refine lv_aload_n hx hb dJ7_fill_53178_2 rfl (lv_at hl 1 rfl) ?_
  refine va_alen (v := (Int32.ofNat n_a0)) hx hb hK hP 0 0 rfl rfl rfl dJ7_fill_53178_3 ?_
  refine lv_istore_n (lv' := [(3, .int (Int32.ofNat n_a0)), (2, .int 0), (0, .ref q_a0), (1, .int x1)]) hx hb dJ7_fill_53178_4 rfl hl (by decide) rfl (fun ls hl => ?_)
  have hl : lv_has ls 4 [(0, .ref q_a0), (1, .int x1), (2, .int 0), (3, .int (Int32.ofNat n_a0))] := lv_sub hl [2, 3, 1, 0] rfl
  refine w_J7_fill_53178_L5 C0 hP hD hS hl hres (fun y3 y4 H locs ls hP hD hS hl hres => ?_)
  cases hres
  exact ret_v C0 hP hD hS dJ7_fill_53178_20
set_option maxHeartbeats 4000000 in
set_option maxRecDepth 100000 in
theorem c_X4_begin (l : Launch) (g : gG) {q_this q_flashes q_haters : Nat} {v_keepers : Int32} {v_hates : Int32} {v_sight : Int32} {v_sightTold : Int32} {f_haters : Nat → Int32} {u0 : Int32 × Int32 × Int32 × Int32 × (Nat → Int32)} (hres : f_X4_begin f_haters = some u0) : Cv l g yX4_begin wsX4_begin rm_X4_begin [.ref q_this] [(q_this, .inr (4, [.int v_keepers, .int v_hates, .int v_sight, .int v_sightTold, .ref q_flashes, .ref q_haters])), (q_haters, .inl (g.2.1, 6, .inl f_haters))] [(q_this, .inr (4, [.int u0.1, .int u0.2.1, .int u0.2.2.1, .int u0.2.2.2.1, .ref q_flashes, .ref q_haters])), (q_haters, .inl (g.2.1, 6, .inl u0.2.2.2.2))] := by
  intro sz
  refine gBody (Qf := fun A => gQv g [(q_this, .inr (4, [.int u0.1, .int u0.2.1, .int u0.2.2.1, .int u0.2.2.2.1, .ref q_flashes, .ref q_haters])), (q_haters, .inl (g.2.1, 6, .inl u0.2.2.2.2))] A) (cc := cX4_begin) (maxL := 1) (ret := none) (own := RX4) (by decide +kernel) rfl rfl (Nat.le_of_ble_eq_true rfl) ?_
  intro p e s m args below meth c A C0 H hS hD hP ls hl
  obtain ⟨hx, hb, hml, hown, hts, hr, hlk, hN, hK, hF, hA⟩ := id C0
  have hl : lv_has ls 1 [(0, .ref q_this)] := hl
  unfold f_X4_begin at hres
  refine lv_aload_n hx hb dX4_begin_0 rfl (lv_at hl 0 rfl) ?_
  refine lv_iconst (v := 0) hx hb dX4_begin_1 (by decide) ?_
  refine va_put (D := g.1) (ci := 4) (v := .int 0) (ty := .int) (C := RX4) (T := TX4) (N := 6) hx hb hts in_X4_begin_X4 tyX4 tyX4_ok nmX4 hown hK hP hD hS 0 rfl rfl 0 (by decide) (hts (.fieldLink RX4 22 "LightKeepers$Told" "keepers" "I") (List.mem_of_getElem? (i := 1) rfl)) (fun _ h9 => h9) rfl (tyX4_ok 0 (by decide)) rfl rfl (Nat.le_of_ble_eq_true rfl) dX4_begin_2 (fun H locs hP hD hS => ?_)
  have hP : va_P g.1 vwCl [(q_this, .inr (4, [.int 0, .int v_hates, .int v_sight, .int v_sightTold, .ref q_flashes, .ref q_haters])), (q_haters, .inl (g.2.1, 6, .inl f_haters))] H := hP
  have hD : va_D A [(q_this, .inr (4, [.int 0, .int v_hates, .int v_sight, .int v_sightTold, .ref q_flashes, .ref q_haters])), (q_haters, .inl (g.2.1, 6, .inl f_haters))] := hD
  refine lv_aload_n hx hb dX4_begin_5 rfl (lv_at hl 0 rfl) ?_
  refine lv_iconst (v := 0) hx hb dX4_begin_6 (by decide) ?_
  refine va_put (D := g.1) (ci := 4) (v := .int 0) (ty := .int) (C := RX4) (T := TX4) (N := 6) hx hb hts in_X4_begin_X4 tyX4 tyX4_ok nmX4 hown hK hP hD hS 0 rfl rfl 1 (by decide) (hts (.fieldLink RX4 25 "LightKeepers$Told" "hates" "I") (List.mem_of_getElem? (i := 2) rfl)) (fun _ h9 => h9) rfl (tyX4_ok 1 (by decide)) rfl rfl (Nat.le_of_ble_eq_true rfl) dX4_begin_7 (fun H locs hP hD hS => ?_)
  have hP : va_P g.1 vwCl [(q_this, .inr (4, [.int 0, .int 0, .int v_sight, .int v_sightTold, .ref q_flashes, .ref q_haters])), (q_haters, .inl (g.2.1, 6, .inl f_haters))] H := hP
  have hD : va_D A [(q_this, .inr (4, [.int 0, .int 0, .int v_sight, .int v_sightTold, .ref q_flashes, .ref q_haters])), (q_haters, .inl (g.2.1, 6, .inl f_haters))] := hD
  refine lv_aload_n hx hb dX4_begin_10 rfl (lv_at hl 0 rfl) ?_
  refine lv_iconst (v := 1) hx hb dX4_begin_11 (by decide) ?_
  refine va_put (D := g.1) (ci := 4) (v := .int 1) (ty := .int) (C := RX4) (T := TX4) (N := 6) hx hb hts in_X4_begin_X4 tyX4 tyX4_ok nmX4 hown hK hP hD hS 0 rfl rfl 2 (by decide) (hts (.fieldLink RX4 9 "LightKeepers$Told" "sight" "I") (List.mem_of_getElem? (i := 3) rfl)) (fun _ h9 => h9) rfl (tyX4_ok 2 (by decide)) rfl rfl (Nat.le_of_ble_eq_true rfl) dX4_begin_12 (fun H locs hP hD hS => ?_)
  have hP : va_P g.1 vwCl [(q_this, .inr (4, [.int 0, .int 0, .int 1, .int v_sightTold, .ref q_flashes, .ref q_haters])), (q_haters, .inl (g.2.1, 6, .inl f_haters))] H := hP
  have hD : va_D A [(q_this, .inr (4, [.int 0, .int 0, .int 1, .int v_sightTold, .ref q_flashes, .ref q_haters])), (q_haters, .inl (g.2.1, 6, .inl f_haters))] := hD
  refine lv_aload_n hx hb dX4_begin_15 rfl (lv_at hl 0 rfl) ?_
  refine lv_iconst (v := 0) hx hb dX4_begin_16 (by decide) ?_
  refine va_put (D := g.1) (ci := 4) (v := .int 0) (ty := .boolean) (C := RX4) (T := TX4) (N := 6) hx hb hts in_X4_begin_X4 tyX4 tyX4_ok nmX4 hown hK hP hD hS 0 rfl rfl 3 (by decide) (hts (.fieldLink RX4 28 "LightKeepers$Told" "sightTold" "Z") (List.mem_of_getElem? (i := 4) rfl)) (fun _ h9 => h9) rfl (tyX4_ok 3 (by decide)) rfl rfl (Nat.le_of_ble_eq_true rfl) dX4_begin_17 (fun H locs hP hD hS => ?_)
  have hP : va_P g.1 vwCl [(q_this, .inr (4, [.int 0, .int 0, .int 1, .int 0, .ref q_flashes, .ref q_haters])), (q_haters, .inl (g.2.1, 6, .inl f_haters))] H := hP
  have hD : va_D A [(q_this, .inr (4, [.int 0, .int 0, .int 1, .int 0, .ref q_flashes, .ref q_haters])), (q_haters, .inl (g.2.1, 6, .inl f_haters))] := hD
  refine lv_aload_n hx hb dX4_begin_20 rfl (lv_at hl 0 rfl) ?_
  refine va_get (D := g.1) (ci := 4) (v := .ref q_haters) (C := RX4) (T := TX4) (N := 6) hx hb hts in_X4_begin_X4 hown hK hP 0 rfl rfl 5 (by decide) (hts (.fieldLink RX4 19 "LightKeepers$Told" "haters" "[I") (List.mem_of_getElem? (i := 5) rfl)) (fun _ h9 => h9) rfl dX4_begin_21 ?_
  refine lv_iconst (v := 0) hx hb dX4_begin_24 (by decide) ?_
  obtain ⟨u1, hu1, hres⟩ := bd hres
  refine k_v C0 (run_S (As := [.ref q_haters, .int 0]) (rest := []) C0 (c_J7_fill_53178 l g (q_a0 := q_haters) (n_a0 := 6) (f_a0 := f_haters) (x1 := 0) (u0 := u1) hu1 _) 2 gX4_begin_J7_fill_53178 rfl rfl rfl hd_J7_fill_53178 ⟨Nat.le_of_ble_eq_true rfl, Nat.le_of_ble_eq_true rfl⟩ hP hD hS [1] rfl rfl rfl hl.1 rfl (Nat.le_of_ble_eq_true rfl) ⟨Nat.zero_le _, Nat.zero_le _⟩ dX4_begin_25) hP hD hS [1] [0] rfl rfl rfl (by decide) (fun H locs hP hD hS => ?_)
  have hP : va_P g.1 vwCl [(q_this, .inr (4, [.int 0, .int 0, .int 1, .int 0, .ref q_flashes, .ref q_haters])), (q_haters, .inl (g.2.1, 6, .inl u1))] H := hP
  have hD : va_D A [(q_this, .inr (4, [.int 0, .int 0, .int 1, .int 0, .ref q_flashes, .ref q_haters])), (q_haters, .inl (g.2.1, 6, .inl u1))] := hD
  cases hres
  exact ret_v C0 hP hD hS dX4_begin_28
set_option maxHeartbeats 4000000 in
set_option maxRecDepth 100000 in
theorem w_X1_read_L11 {p : Program} {l : Launch} {e : Env} {s : State} {m : MethodId} {args : Array Value} {below : List Frame} {meth : Method} {c : Code} {g : gG} {A : Nat → Prop} {q_this q_bytes q_a1 q_a1_flashes q_a1_haters : Nat} {v_length : Int32} {f_bytes : Nat → Int32} {u0 : Int32 × Int32 × Int32 × Int32 × Int32 × Int32 × Int32 × Int32 × Int32 × (Nat → Int32) × (Nat → Int32)} {k : Int32 → Int32 → Int32 → Int32 → Int32 → Int32 → Int32 → Int32 → Int32 → (Nat → Int32) → (Nat → Int32) → Option (Int32 × Int32 × Int32 × Int32 × Int32 × Int32 × Int32 × Int32 × Int32 × (Nat → Int32) × (Nat → Int32))} {n : Nat} {x2 : Int32} {v_place : Int32} {v_end : Int32} {v_token : Int32} {v_value : Int32} {v_a1_keepers : Int32} {v_a1_hates : Int32} {v_a1_sight : Int32} {v_a1_sightTold : Int32} {f_a1_haters : Nat → Int32} {f_a1_flashes : Nat → Int32} {H : Heap} {locs : List Loc} {ls : Array Slot} (C0 : Cx p s m args meth c RX1 cX1_read 4 wsX1_read (some .int) g A)
    (hP : va_P g.1 vwCl [(q_this, .inr (1, [.ref q_bytes, .int v_length, .int v_place, .int v_end, .int v_token, .int v_value])), (q_a1, .inr (4, [.int v_a1_keepers, .int v_a1_hates, .int v_a1_sight, .int v_a1_sightTold, .ref q_a1_flashes, .ref q_a1_haters])), (q_a1_haters, .inl (g.2.1, 6, .inl f_a1_haters)), (q_bytes, .inl (g.2.1, 120, .inl f_bytes)), (q_a1_flashes, .inl (g.2.1, 6, .inl f_a1_flashes))] H) (hD : va_D A [(q_this, .inr (1, [.ref q_bytes, .int v_length, .int v_place, .int v_end, .int v_token, .int v_value])), (q_a1, .inr (4, [.int v_a1_keepers, .int v_a1_hates, .int v_a1_sight, .int v_a1_sightTold, .ref q_a1_flashes, .ref q_a1_haters])), (q_a1_haters, .inl (g.2.1, 6, .inl f_a1_haters)), (q_bytes, .inl (g.2.1, 120, .inl f_bytes)), (q_a1_flashes, .inl (g.2.1, 6, .inl f_a1_flashes))]) (hS : va_S A s.heap H locs) (hl : lv_has ls 4 [(0, .ref q_this), (1, .ref q_a1), (2, .int x2)]) (hres : lp_X1_read_L11 v_length f_bytes k n x2 v_place v_end v_token v_value v_a1_keepers v_a1_hates v_a1_sight v_a1_sightTold f_a1_haters f_a1_flashes = some u0)
    (K : ∀ (x2 : Int32) (v_place : Int32) (v_end : Int32) (v_token : Int32) (v_value : Int32) (v_a1_keepers : Int32) (v_a1_hates : Int32) (v_a1_sight : Int32) (v_a1_sightTold : Int32) (f_a1_haters : Nat → Int32) (f_a1_flashes : Nat → Int32) (H : Heap) (locs : List Loc) (ls : Array Slot), va_P g.1 vwCl [(q_this, .inr (1, [.ref q_bytes, .int v_length, .int v_place, .int v_end, .int v_token, .int v_value])), (q_a1, .inr (4, [.int v_a1_keepers, .int v_a1_hates, .int v_a1_sight, .int v_a1_sightTold, .ref q_a1_flashes, .ref q_a1_haters])), (q_a1_haters, .inl (g.2.1, 6, .inl f_a1_haters)), (q_bytes, .inl (g.2.1, 120, .inl f_bytes)), (q_a1_flashes, .inl (g.2.1, 6, .inl f_a1_flashes))] H → va_D A [(q_this, .inr (1, [.ref q_bytes, .int v_length, .int v_place, .int v_end, .int v_token, .int v_value])), (q_a1, .inr (4, [.int v_a1_keepers, .int v_a1_hates, .int v_a1_sight, .int v_a1_sightTold, .ref q_a1_flashes, .ref q_a1_haters])), (q_a1_haters, .inl (g.2.1, 6, .inl f_a1_haters)), (q_bytes, .inl (g.2.1, 120, .inl f_bytes)), (q_a1_flashes, .inl (g.2.1, 6, .inl f_a1_flashes))] → va_S A s.heap H locs → lv_has ls 4 [(0, .ref q_this), (1, .ref q_a1), (2, .int x2)] → k x2 v_place v_end v_token v_value v_a1_keepers v_a1_hates v_a1_sight v_a1_sightTold f_a1_haters f_a1_flashes = some u0 → W p l e rm_X1_read s m args below meth c H locs 0 0 (MQ below (gQi g [(q_this, .inr (1, [.ref q_bytes, .int v_length, .int u0.2.1, .int u0.2.2.1, .int u0.2.2.2.1, .int u0.2.2.2.2.1])), (q_a1, .inr (4, [.int u0.2.2.2.2.2.1, .int u0.2.2.2.2.2.2.1, .int u0.2.2.2.2.2.2.2.1, .int u0.2.2.2.2.2.2.2.2.1, .ref q_a1_flashes, .ref q_a1_haters])), (q_a1_haters, .inl (g.2.1, 6, .inl u0.2.2.2.2.2.2.2.2.2.1)), (q_bytes, .inl (g.2.1, 120, .inl f_bytes)), (q_a1_flashes, .inl (g.2.1, 6, .inl u0.2.2.2.2.2.2.2.2.2.2))] u0.1 A) args s 0 0 A) (F0 m 114 ls [])) :
    W p l e rm_X1_read s m args below meth c H locs 0 0 (MQ below (gQi g [(q_this, .inr (1, [.ref q_bytes, .int v_length, .int u0.2.1, .int u0.2.2.1, .int u0.2.2.2.1, .int u0.2.2.2.2.1])), (q_a1, .inr (4, [.int u0.2.2.2.2.2.1, .int u0.2.2.2.2.2.2.1, .int u0.2.2.2.2.2.2.2.1, .int u0.2.2.2.2.2.2.2.2.1, .ref q_a1_flashes, .ref q_a1_haters])), (q_a1_haters, .inl (g.2.1, 6, .inl u0.2.2.2.2.2.2.2.2.2.1)), (q_bytes, .inl (g.2.1, 120, .inl f_bytes)), (q_a1_flashes, .inl (g.2.1, 6, .inl u0.2.2.2.2.2.2.2.2.2.2))] u0.1 A) args s 0 0 A) (F0 m 11 ls []) := by
  obtain ⟨hx, hb, hml, hown, hts, hr, hlk, hN, hK, hF, hA⟩ := id C0
  induction n generalizing x2 v_place v_end v_token v_value v_a1_keepers v_a1_hates v_a1_sight v_a1_sightTold f_a1_haters f_a1_flashes H locs ls with
  | zero => cases hres
  | succ n ih =>
    unfold lp_X1_read_L11 at hres
    refine lv_iload_n hx hb dX1_read_11 rfl (lv_at hl 2 rfl) ?_
    refine lv_bipush (v := 120) hx hb dX1_read_12 (by decide) ?_
    refine lv_icmp_gt (tgt := 114) hx hb dX1_read_14 (by decide) (fun c2 => ?_) (fun c2 => ?_)
    · have hres := it_t hres c2
      exact K _ _ _ _ _ _ _ _ _ _ _ _ _ _ hP hD hS hl hres
    · have hres := it_f hres c2
      refine lv_aload_n hx hb dX1_read_17 rfl (lv_at hl 0 rfl) ?_
      obtain ⟨u3, hu3, hres⟩ := bd hres
      refine k_v C0 (run_V (As := []) (rest := []) C0 (c_X1_next l g (q_this := q_this) (q_bytes := q_bytes) (v_length := v_length) (v_place := v_place) (v_end := v_end) (v_token := v_token) (v_value := v_value) (f_bytes := f_bytes) (u0 := u3) hu3 _) 0 gX1_read_X1_next rfl rfl rfl hd_X1_next ⟨Nat.le_of_ble_eq_true rfl, Nat.le_of_ble_eq_true rfl⟩ hP hD hS [0, 3] rfl rfl 0 1 rfl rfl rfl hl.1 rfl (Nat.le_of_ble_eq_true rfl) ⟨Nat.zero_le _, Nat.zero_le _⟩ dX1_read_18) hP hD hS [0, 3] [1, 2, 4] rfl rfl rfl (by decide) (fun H locs hP hD hS => ?_)
      have hP : va_P g.1 vwCl [(q_a1, .inr (4, [.int v_a1_keepers, .int v_a1_hates, .int v_a1_sight, .int v_a1_sightTold, .ref q_a1_flashes, .ref q_a1_haters])), (q_a1_haters, .inl (g.2.1, 6, .inl f_a1_haters)), (q_a1_flashes, .inl (g.2.1, 6, .inl f_a1_flashes)), (q_this, .inr (1, [.ref q_bytes, .int v_length, .int u3.1, .int u3.2.1, .int u3.2.2.1, .int u3.2.2.2])), (q_bytes, .inl (g.2.1, 120, .inl f_bytes))] H := hP
      have hD : va_D A [(q_a1, .inr (4, [.int v_a1_keepers, .int v_a1_hates, .int v_a1_sight, .int v_a1_sightTold, .ref q_a1_flashes, .ref q_a1_haters])), (q_a1_haters, .inl (g.2.1, 6, .inl f_a1_haters)), (q_a1_flashes, .inl (g.2.1, 6, .inl f_a1_flashes)), (q_this, .inr (1, [.ref q_bytes, .int v_length, .int u3.1, .int u3.2.1, .int u3.2.2.1, .int u3.2.2.2])), (q_bytes, .inl (g.2.1, 120, .inl f_bytes))] := hD
      refine lv_aload_n hx hb dX1_read_21 rfl (lv_at hl 0 rfl) ?_
      refine va_get (D := g.1) (ci := 1) (v := .int u3.2.2.1) (C := RX1) (T := TX1) (N := 6) hx hb hts in_X1_read_X1 hown hK hP 3 rfl rfl 4 (by decide) (hts (.fieldLink RX1 34 "LightKeepers$Reader" "token" "I") (List.mem_of_getElem? (i := 2) rfl)) (fun _ h9 => h9) rfl dX1_read_22 ?_
      refine lv_if_ne (tgt := 30) hx hb dX1_read_25 (by decide) (fun c4 => ?_) (fun c4 => ?_)
      · have hres := it_f hres c4
        refine lv_aload_n hx hb dX1_read_30 rfl (lv_at hl 0 rfl) ?_
        refine va_get (D := g.1) (ci := 1) (v := .int u3.2.2.1) (C := RX1) (T := TX1) (N := 6) hx hb hts in_X1_read_X1 hown hK hP 3 rfl rfl 4 (by decide) (hts (.fieldLink RX1 34 "LightKeepers$Reader" "token" "I") (List.mem_of_getElem? (i := 2) rfl)) (fun _ h9 => h9) rfl dX1_read_31 ?_
        refine lv_iconst (v := 1) hx hb dX1_read_34 (by decide) ?_
        refine lv_icmp_ne (tgt := 99) hx hb dX1_read_35 (by decide) (fun c5 => ?_) (fun c5 => ?_)
        · have hres := it_f hres c5
          refine lv_iconst (v := 0) hx hb dX1_read_99 (by decide) ?_
          refine lv_istore_n (lv' := [(3, .int 0), (0, .ref q_this), (1, .ref q_a1), (2, .int x2)]) hx hb dX1_read_100 rfl hl (by decide) rfl (fun ls hl => ?_)
          refine lv_iload_n hx hb dX1_read_101 rfl (lv_at hl 0 rfl) ?_
          refine lv_if_ne (tgt := 108) hx hb dX1_read_102 (by decide) (fun c9 => absurd (by decide) c9) (fun _ => ?_)
          refine lv_bipush (v := (-9)) hx hb dX1_read_105 (by decide) ?_
          have hP : va_P g.1 vwCl [(q_this, .inr (1, [.ref q_bytes, .int v_length, .int u3.1, .int u3.2.1, .int u3.2.2.1, .int u3.2.2.2])), (q_a1, .inr (4, [.int v_a1_keepers, .int v_a1_hates, .int v_a1_sight, .int v_a1_sightTold, .ref q_a1_flashes, .ref q_a1_haters])), (q_a1_haters, .inl (g.2.1, 6, .inl f_a1_haters)), (q_bytes, .inl (g.2.1, 120, .inl f_bytes)), (q_a1_flashes, .inl (g.2.1, 6, .inl f_a1_flashes))] H := hP.sub [3, 0, 1, 4, 2] rfl
          have hD : va_D A [(q_this, .inr (1, [.ref q_bytes, .int v_length, .int u3.1, .int u3.2.1, .int u3.2.2.1, .int u3.2.2.2])), (q_a1, .inr (4, [.int v_a1_keepers, .int v_a1_hates, .int v_a1_sight, .int v_a1_sightTold, .ref q_a1_flashes, .ref q_a1_haters])), (q_a1_haters, .inl (g.2.1, 6, .inl f_a1_haters)), (q_bytes, .inl (g.2.1, 120, .inl f_bytes)), (q_a1_flashes, .inl (g.2.1, 6, .inl f_a1_flashes))] := hD.sub [3, 0, 1, 4, 2] (by decide) rfl
          cases hres
          exact ret_i C0 hP hD hS dX1_read_107
        · have hres := it_t hres c5
          refine lv_aload_n hx hb dX1_read_38 rfl (lv_at hl 0 rfl) ?_
          refine va_get (D := g.1) (ci := 1) (v := .int u3.2.2.2) (C := RX1) (T := TX1) (N := 6) hx hb hts in_X1_read_X1 hown hK hP 3 rfl rfl 5 (by decide) (hts (.fieldLink RX1 37 "LightKeepers$Reader" "value" "I") (List.mem_of_getElem? (i := 3) rfl)) (fun _ h9 => h9) rfl dX1_read_39 ?_
          refine lv_bipush (v := 107) hx hb dX1_read_42 (by decide) ?_
          refine lv_icmp_ne (tgt := 58) hx hb dX1_read_44 (by decide) (fun c6 => ?_) (fun c6 => ?_)
          · have hres := it_f hres c6
            refine lv_aload_n hx hb dX1_read_58 rfl (lv_at hl 0 rfl) ?_
            refine va_get (D := g.1) (ci := 1) (v := .int u3.2.2.2) (C := RX1) (T := TX1) (N := 6) hx hb hts in_X1_read_X1 hown hK hP 3 rfl rfl 5 (by decide) (hts (.fieldLink RX1 37 "LightKeepers$Reader" "value" "I") (List.mem_of_getElem? (i := 3) rfl)) (fun _ h9 => h9) rfl dX1_read_59 ?_
            refine lv_bipush (v := 104) hx hb dX1_read_62 (by decide) ?_
            refine lv_icmp_ne (tgt := 78) hx hb dX1_read_64 (by decide) (fun c7 => ?_) (fun c7 => ?_)
            · have hres := it_f hres c7
              refine lv_aload_n hx hb dX1_read_78 rfl (lv_at hl 0 rfl) ?_
              refine va_get (D := g.1) (ci := 1) (v := .int u3.2.2.2) (C := RX1) (T := TX1) (N := 6) hx hb hts in_X1_read_X1 hown hK hP 3 rfl rfl 5 (by decide) (hts (.fieldLink RX1 37 "LightKeepers$Reader" "value" "I") (List.mem_of_getElem? (i := 3) rfl)) (fun _ h9 => h9) rfl dX1_read_79 ?_
              refine lv_bipush (v := 115) hx hb dX1_read_82 (by decide) ?_
              refine lv_icmp_ne (tgt := 99) hx hb dX1_read_84 (by decide) (fun c8 => ?_) (fun c8 => ?_)
              · have hres := it_f hres c8
                refine lv_iconst (v := 0) hx hb dX1_read_99 (by decide) ?_
                refine lv_istore_n (lv' := [(3, .int 0), (0, .ref q_this), (1, .ref q_a1), (2, .int x2)]) hx hb dX1_read_100 rfl hl (by decide) rfl (fun ls hl => ?_)
                refine lv_iload_n hx hb dX1_read_101 rfl (lv_at hl 0 rfl) ?_
                refine lv_if_ne (tgt := 108) hx hb dX1_read_102 (by decide) (fun c9 => absurd (by decide) c9) (fun _ => ?_)
                refine lv_bipush (v := (-9)) hx hb dX1_read_105 (by decide) ?_
                have hP : va_P g.1 vwCl [(q_this, .inr (1, [.ref q_bytes, .int v_length, .int u3.1, .int u3.2.1, .int u3.2.2.1, .int u3.2.2.2])), (q_a1, .inr (4, [.int v_a1_keepers, .int v_a1_hates, .int v_a1_sight, .int v_a1_sightTold, .ref q_a1_flashes, .ref q_a1_haters])), (q_a1_haters, .inl (g.2.1, 6, .inl f_a1_haters)), (q_bytes, .inl (g.2.1, 120, .inl f_bytes)), (q_a1_flashes, .inl (g.2.1, 6, .inl f_a1_flashes))] H := hP.sub [3, 0, 1, 4, 2] rfl
                have hD : va_D A [(q_this, .inr (1, [.ref q_bytes, .int v_length, .int u3.1, .int u3.2.1, .int u3.2.2.1, .int u3.2.2.2])), (q_a1, .inr (4, [.int v_a1_keepers, .int v_a1_hates, .int v_a1_sight, .int v_a1_sightTold, .ref q_a1_flashes, .ref q_a1_haters])), (q_a1_haters, .inl (g.2.1, 6, .inl f_a1_haters)), (q_bytes, .inl (g.2.1, 120, .inl f_bytes)), (q_a1_flashes, .inl (g.2.1, 6, .inl f_a1_flashes))] := hD.sub [3, 0, 1, 4, 2] (by decide) rfl
                cases hres
                exact ret_i C0 hP hD hS dX1_read_107
              · have hres := it_t hres c8
                refine lv_aload_n hx hb dX1_read_87 rfl (lv_at hl 0 rfl) ?_
                refine lv_aload_n hx hb dX1_read_88 rfl (lv_at hl 1 rfl) ?_
                obtain ⟨u9, hu9, hres⟩ := bd hres
                refine k_i C0 (run_V (As := [.ref q_a1]) (rest := []) C0 (c_X1_readSight l g (q_this := q_this) (q_bytes := q_bytes) (q_a1 := q_a1) (q_a1_flashes := q_a1_flashes) (q_a1_haters := q_a1_haters) (v_length := v_length) (v_place := u3.1) (v_end := u3.2.1) (v_token := u3.2.2.1) (v_value := u3.2.2.2) (v_a1_keepers := v_a1_keepers) (v_a1_hates := v_a1_hates) (v_a1_sight := v_a1_sight) (v_a1_sightTold := v_a1_sightTold) (f_bytes := f_bytes) (u0 := u9) hu9 _) 1 gX1_read_X1_readSight rfl rfl rfl hd_X1_readSight ⟨Nat.le_of_ble_eq_true rfl, Nat.le_of_ble_eq_true rfl⟩ hP hD hS [3, 0, 4] rfl rfl 3 1 rfl rfl rfl hl.1 rfl (Nat.le_of_ble_eq_true rfl) ⟨Nat.zero_le _, Nat.zero_le _⟩ dX1_read_89) hP hD hS [3, 0, 4] [1, 2] rfl rfl rfl (by decide) (fun H locs hP hD hS => ?_)
                have hP : va_P g.1 vwCl [(q_a1_haters, .inl (g.2.1, 6, .inl f_a1_haters)), (q_a1_flashes, .inl (g.2.1, 6, .inl f_a1_flashes)), (q_this, .inr (1, [.ref q_bytes, .int v_length, .int u9.2.1, .int u9.2.2.1, .int u9.2.2.2.1, .int u9.2.2.2.2.1])), (q_a1, .inr (4, [.int v_a1_keepers, .int v_a1_hates, .int u9.2.2.2.2.2.1, .int u9.2.2.2.2.2.2, .ref q_a1_flashes, .ref q_a1_haters])), (q_bytes, .inl (g.2.1, 120, .inl f_bytes))] H := hP
                have hD : va_D A [(q_a1_haters, .inl (g.2.1, 6, .inl f_a1_haters)), (q_a1_flashes, .inl (g.2.1, 6, .inl f_a1_flashes)), (q_this, .inr (1, [.ref q_bytes, .int v_length, .int u9.2.1, .int u9.2.2.1, .int u9.2.2.2.1, .int u9.2.2.2.2.1])), (q_a1, .inr (4, [.int v_a1_keepers, .int v_a1_hates, .int u9.2.2.2.2.2.1, .int u9.2.2.2.2.2.2, .ref q_a1_flashes, .ref q_a1_haters])), (q_bytes, .inl (g.2.1, 120, .inl f_bytes))] := hD
                refine lv_if_eq (tgt := 99) hx hb dX1_read_92 (by decide) (fun c10 => ?_) (fun c10 => ?_)
                · have hres := it_t hres c10
                  refine lv_iconst (v := 0) hx hb dX1_read_99 (by decide) ?_
                  refine lv_istore_n (lv' := [(3, .int 0), (0, .ref q_this), (1, .ref q_a1), (2, .int x2)]) hx hb dX1_read_100 rfl hl (by decide) rfl (fun ls hl => ?_)
                  refine lv_iload_n hx hb dX1_read_101 rfl (lv_at hl 0 rfl) ?_
                  refine lv_if_ne (tgt := 108) hx hb dX1_read_102 (by decide) (fun c9 => absurd (by decide) c9) (fun _ => ?_)
                  refine lv_bipush (v := (-9)) hx hb dX1_read_105 (by decide) ?_
                  have hP : va_P g.1 vwCl [(q_this, .inr (1, [.ref q_bytes, .int v_length, .int u9.2.1, .int u9.2.2.1, .int u9.2.2.2.1, .int u9.2.2.2.2.1])), (q_a1, .inr (4, [.int v_a1_keepers, .int v_a1_hates, .int u9.2.2.2.2.2.1, .int u9.2.2.2.2.2.2, .ref q_a1_flashes, .ref q_a1_haters])), (q_a1_haters, .inl (g.2.1, 6, .inl f_a1_haters)), (q_bytes, .inl (g.2.1, 120, .inl f_bytes)), (q_a1_flashes, .inl (g.2.1, 6, .inl f_a1_flashes))] H := hP.sub [2, 3, 0, 4, 1] rfl
                  have hD : va_D A [(q_this, .inr (1, [.ref q_bytes, .int v_length, .int u9.2.1, .int u9.2.2.1, .int u9.2.2.2.1, .int u9.2.2.2.2.1])), (q_a1, .inr (4, [.int v_a1_keepers, .int v_a1_hates, .int u9.2.2.2.2.2.1, .int u9.2.2.2.2.2.2, .ref q_a1_flashes, .ref q_a1_haters])), (q_a1_haters, .inl (g.2.1, 6, .inl f_a1_haters)), (q_bytes, .inl (g.2.1, 120, .inl f_bytes)), (q_a1_flashes, .inl (g.2.1, 6, .inl f_a1_flashes))] := hD.sub [2, 3, 0, 4, 1] (by decide) rfl
                  cases hres
                  exact ret_i C0 hP hD hS dX1_read_107
                · have hres := it_f hres c10
                  refine lv_iconst (v := 1) hx hb dX1_read_95 (by decide) ?_
                  refine lv_goto (tgt := 100) hx hb dX1_read_96 (by decide) ?_
                  refine lv_istore_n (lv' := [(3, .int 1), (0, .ref q_this), (1, .ref q_a1), (2, .int x2)]) hx hb dX1_read_100 rfl hl (by decide) rfl (fun ls hl => ?_)
                  refine lv_iload_n hx hb dX1_read_101 rfl (lv_at hl 0 rfl) ?_
                  refine lv_if_ne (tgt := 108) hx hb dX1_read_102 (by decide) (fun _ => ?_) (fun c9 => absurd c9 (by decide))
                  refine lv_iinc (v := (x2 + 1)) (lv' := [(2, .int (x2 + 1)), (3, .int 1), (0, .ref q_this), (1, .ref q_a1)]) hx hb dX1_read_108 hl (k := 3) rfl rfl (by decide) rfl (fun ls hl => ?_)
                  refine lv_goto (tgt := 11) hx hb dX1_read_111 (by decide) ?_
                  have hP : va_P g.1 vwCl [(q_this, .inr (1, [.ref q_bytes, .int v_length, .int u9.2.1, .int u9.2.2.1, .int u9.2.2.2.1, .int u9.2.2.2.2.1])), (q_a1, .inr (4, [.int v_a1_keepers, .int v_a1_hates, .int u9.2.2.2.2.2.1, .int u9.2.2.2.2.2.2, .ref q_a1_flashes, .ref q_a1_haters])), (q_a1_haters, .inl (g.2.1, 6, .inl f_a1_haters)), (q_bytes, .inl (g.2.1, 120, .inl f_bytes)), (q_a1_flashes, .inl (g.2.1, 6, .inl f_a1_flashes))] H := hP.sub [2, 3, 0, 4, 1] rfl
                  have hD : va_D A [(q_this, .inr (1, [.ref q_bytes, .int v_length, .int u9.2.1, .int u9.2.2.1, .int u9.2.2.2.1, .int u9.2.2.2.2.1])), (q_a1, .inr (4, [.int v_a1_keepers, .int v_a1_hates, .int u9.2.2.2.2.2.1, .int u9.2.2.2.2.2.2, .ref q_a1_flashes, .ref q_a1_haters])), (q_a1_haters, .inl (g.2.1, 6, .inl f_a1_haters)), (q_bytes, .inl (g.2.1, 120, .inl f_bytes)), (q_a1_flashes, .inl (g.2.1, 6, .inl f_a1_flashes))] := hD.sub [2, 3, 0, 4, 1] (by decide) rfl
                  have hl : lv_has ls 4 [(0, .ref q_this), (1, .ref q_a1), (2, .int (x2 + 1))] := lv_sub hl [2, 3, 0] rfl
                  exact ih hP hD hS hl hres
            · have hres := it_t hres c7
              refine lv_aload_n hx hb dX1_read_67 rfl (lv_at hl 0 rfl) ?_
              refine lv_aload_n hx hb dX1_read_68 rfl (lv_at hl 1 rfl) ?_
              obtain ⟨u11, hu11, hres⟩ := bd hres
              refine k_i C0 (run_V (As := [.ref q_a1]) (rest := []) C0 (c_X1_readHate l g (q_this := q_this) (q_bytes := q_bytes) (q_a1 := q_a1) (q_a1_flashes := q_a1_flashes) (q_a1_haters := q_a1_haters) (v_length := v_length) (v_place := u3.1) (v_end := u3.2.1) (v_token := u3.2.2.1) (v_value := u3.2.2.2) (v_a1_keepers := v_a1_keepers) (v_a1_hates := v_a1_hates) (v_a1_sight := v_a1_sight) (v_a1_sightTold := v_a1_sightTold) (f_bytes := f_bytes) (f_a1_haters := f_a1_haters) (u0 := u11) hu11 _) 1 gX1_read_X1_readHate rfl rfl rfl hd_X1_readHate ⟨Nat.le_of_ble_eq_true rfl, Nat.le_of_ble_eq_true rfl⟩ hP hD hS [3, 0, 4, 1] rfl rfl 3 1 rfl rfl rfl hl.1 rfl (Nat.le_of_ble_eq_true rfl) ⟨Nat.zero_le _, Nat.zero_le _⟩ dX1_read_69) hP hD hS [3, 0, 4, 1] [2] rfl rfl rfl (by decide) (fun H locs hP hD hS => ?_)
              have hP : va_P g.1 vwCl [(q_a1_flashes, .inl (g.2.1, 6, .inl f_a1_flashes)), (q_this, .inr (1, [.ref q_bytes, .int v_length, .int u11.2.1, .int u11.2.2.1, .int u11.2.2.2.1, .int u11.2.2.2.2.1])), (q_a1, .inr (4, [.int v_a1_keepers, .int u11.2.2.2.2.2.1, .int v_a1_sight, .int v_a1_sightTold, .ref q_a1_flashes, .ref q_a1_haters])), (q_bytes, .inl (g.2.1, 120, .inl f_bytes)), (q_a1_haters, .inl (g.2.1, 6, .inl u11.2.2.2.2.2.2))] H := hP
              have hD : va_D A [(q_a1_flashes, .inl (g.2.1, 6, .inl f_a1_flashes)), (q_this, .inr (1, [.ref q_bytes, .int v_length, .int u11.2.1, .int u11.2.2.1, .int u11.2.2.2.1, .int u11.2.2.2.2.1])), (q_a1, .inr (4, [.int v_a1_keepers, .int u11.2.2.2.2.2.1, .int v_a1_sight, .int v_a1_sightTold, .ref q_a1_flashes, .ref q_a1_haters])), (q_bytes, .inl (g.2.1, 120, .inl f_bytes)), (q_a1_haters, .inl (g.2.1, 6, .inl u11.2.2.2.2.2.2))] := hD
              refine lv_if_eq (tgt := 99) hx hb dX1_read_72 (by decide) (fun c12 => ?_) (fun c12 => ?_)
              · have hres := it_t hres c12
                refine lv_iconst (v := 0) hx hb dX1_read_99 (by decide) ?_
                refine lv_istore_n (lv' := [(3, .int 0), (0, .ref q_this), (1, .ref q_a1), (2, .int x2)]) hx hb dX1_read_100 rfl hl (by decide) rfl (fun ls hl => ?_)
                refine lv_iload_n hx hb dX1_read_101 rfl (lv_at hl 0 rfl) ?_
                refine lv_if_ne (tgt := 108) hx hb dX1_read_102 (by decide) (fun c9 => absurd (by decide) c9) (fun _ => ?_)
                refine lv_bipush (v := (-9)) hx hb dX1_read_105 (by decide) ?_
                have hP : va_P g.1 vwCl [(q_this, .inr (1, [.ref q_bytes, .int v_length, .int u11.2.1, .int u11.2.2.1, .int u11.2.2.2.1, .int u11.2.2.2.2.1])), (q_a1, .inr (4, [.int v_a1_keepers, .int u11.2.2.2.2.2.1, .int v_a1_sight, .int v_a1_sightTold, .ref q_a1_flashes, .ref q_a1_haters])), (q_a1_haters, .inl (g.2.1, 6, .inl u11.2.2.2.2.2.2)), (q_bytes, .inl (g.2.1, 120, .inl f_bytes)), (q_a1_flashes, .inl (g.2.1, 6, .inl f_a1_flashes))] H := hP.sub [1, 2, 4, 3, 0] rfl
                have hD : va_D A [(q_this, .inr (1, [.ref q_bytes, .int v_length, .int u11.2.1, .int u11.2.2.1, .int u11.2.2.2.1, .int u11.2.2.2.2.1])), (q_a1, .inr (4, [.int v_a1_keepers, .int u11.2.2.2.2.2.1, .int v_a1_sight, .int v_a1_sightTold, .ref q_a1_flashes, .ref q_a1_haters])), (q_a1_haters, .inl (g.2.1, 6, .inl u11.2.2.2.2.2.2)), (q_bytes, .inl (g.2.1, 120, .inl f_bytes)), (q_a1_flashes, .inl (g.2.1, 6, .inl f_a1_flashes))] := hD.sub [1, 2, 4, 3, 0] (by decide) rfl
                cases hres
                exact ret_i C0 hP hD hS dX1_read_107
              · have hres := it_f hres c12
                refine lv_goto (tgt := 95) hx hb dX1_read_75 (by decide) ?_
                refine lv_iconst (v := 1) hx hb dX1_read_95 (by decide) ?_
                refine lv_goto (tgt := 100) hx hb dX1_read_96 (by decide) ?_
                refine lv_istore_n (lv' := [(3, .int 1), (0, .ref q_this), (1, .ref q_a1), (2, .int x2)]) hx hb dX1_read_100 rfl hl (by decide) rfl (fun ls hl => ?_)
                refine lv_iload_n hx hb dX1_read_101 rfl (lv_at hl 0 rfl) ?_
                refine lv_if_ne (tgt := 108) hx hb dX1_read_102 (by decide) (fun _ => ?_) (fun c9 => absurd c9 (by decide))
                refine lv_iinc (v := (x2 + 1)) (lv' := [(2, .int (x2 + 1)), (3, .int 1), (0, .ref q_this), (1, .ref q_a1)]) hx hb dX1_read_108 hl (k := 3) rfl rfl (by decide) rfl (fun ls hl => ?_)
                refine lv_goto (tgt := 11) hx hb dX1_read_111 (by decide) ?_
                have hP : va_P g.1 vwCl [(q_this, .inr (1, [.ref q_bytes, .int v_length, .int u11.2.1, .int u11.2.2.1, .int u11.2.2.2.1, .int u11.2.2.2.2.1])), (q_a1, .inr (4, [.int v_a1_keepers, .int u11.2.2.2.2.2.1, .int v_a1_sight, .int v_a1_sightTold, .ref q_a1_flashes, .ref q_a1_haters])), (q_a1_haters, .inl (g.2.1, 6, .inl u11.2.2.2.2.2.2)), (q_bytes, .inl (g.2.1, 120, .inl f_bytes)), (q_a1_flashes, .inl (g.2.1, 6, .inl f_a1_flashes))] H := hP.sub [1, 2, 4, 3, 0] rfl
                have hD : va_D A [(q_this, .inr (1, [.ref q_bytes, .int v_length, .int u11.2.1, .int u11.2.2.1, .int u11.2.2.2.1, .int u11.2.2.2.2.1])), (q_a1, .inr (4, [.int v_a1_keepers, .int u11.2.2.2.2.2.1, .int v_a1_sight, .int v_a1_sightTold, .ref q_a1_flashes, .ref q_a1_haters])), (q_a1_haters, .inl (g.2.1, 6, .inl u11.2.2.2.2.2.2)), (q_bytes, .inl (g.2.1, 120, .inl f_bytes)), (q_a1_flashes, .inl (g.2.1, 6, .inl f_a1_flashes))] := hD.sub [1, 2, 4, 3, 0] (by decide) rfl
                have hl : lv_has ls 4 [(0, .ref q_this), (1, .ref q_a1), (2, .int (x2 + 1))] := lv_sub hl [2, 3, 0] rfl
                exact ih hP hD hS hl hres
          · have hres := it_t hres c6
            refine lv_aload_n hx hb dX1_read_47 rfl (lv_at hl 0 rfl) ?_
            refine lv_aload_n hx hb dX1_read_48 rfl (lv_at hl 1 rfl) ?_
            obtain ⟨u13, hu13, hres⟩ := bd hres
            refine k_i C0 (run_V (As := [.ref q_a1]) (rest := []) C0 (c_X1_readKeeper l g (q_this := q_this) (q_bytes := q_bytes) (q_a1 := q_a1) (q_a1_flashes := q_a1_flashes) (q_a1_haters := q_a1_haters) (v_length := v_length) (v_place := u3.1) (v_end := u3.2.1) (v_token := u3.2.2.1) (v_value := u3.2.2.2) (v_a1_keepers := v_a1_keepers) (v_a1_hates := v_a1_hates) (v_a1_sight := v_a1_sight) (v_a1_sightTold := v_a1_sightTold) (f_bytes := f_bytes) (f_a1_flashes := f_a1_flashes) (u0 := u13) hu13 _) 1 gX1_read_X1_readKeeper rfl rfl rfl hd_X1_readKeeper ⟨Nat.le_of_ble_eq_true rfl, Nat.le_of_ble_eq_true rfl⟩ hP hD hS [3, 0, 4, 2] rfl rfl 3 1 rfl rfl rfl hl.1 rfl (Nat.le_of_ble_eq_true rfl) ⟨Nat.zero_le _, Nat.zero_le _⟩ dX1_read_49) hP hD hS [3, 0, 4, 2] [1] rfl rfl rfl (by decide) (fun H locs hP hD hS => ?_)
            have hP : va_P g.1 vwCl [(q_a1_haters, .inl (g.2.1, 6, .inl f_a1_haters)), (q_this, .inr (1, [.ref q_bytes, .int v_length, .int u13.2.1, .int u13.2.2.1, .int u13.2.2.2.1, .int u13.2.2.2.2.1])), (q_a1, .inr (4, [.int u13.2.2.2.2.2.1, .int v_a1_hates, .int v_a1_sight, .int v_a1_sightTold, .ref q_a1_flashes, .ref q_a1_haters])), (q_bytes, .inl (g.2.1, 120, .inl f_bytes)), (q_a1_flashes, .inl (g.2.1, 6, .inl u13.2.2.2.2.2.2))] H := hP
            have hD : va_D A [(q_a1_haters, .inl (g.2.1, 6, .inl f_a1_haters)), (q_this, .inr (1, [.ref q_bytes, .int v_length, .int u13.2.1, .int u13.2.2.1, .int u13.2.2.2.1, .int u13.2.2.2.2.1])), (q_a1, .inr (4, [.int u13.2.2.2.2.2.1, .int v_a1_hates, .int v_a1_sight, .int v_a1_sightTold, .ref q_a1_flashes, .ref q_a1_haters])), (q_bytes, .inl (g.2.1, 120, .inl f_bytes)), (q_a1_flashes, .inl (g.2.1, 6, .inl u13.2.2.2.2.2.2))] := hD
            refine lv_if_eq (tgt := 99) hx hb dX1_read_52 (by decide) (fun c14 => ?_) (fun c14 => ?_)
            · have hres := it_t hres c14
              refine lv_iconst (v := 0) hx hb dX1_read_99 (by decide) ?_
              refine lv_istore_n (lv' := [(3, .int 0), (0, .ref q_this), (1, .ref q_a1), (2, .int x2)]) hx hb dX1_read_100 rfl hl (by decide) rfl (fun ls hl => ?_)
              refine lv_iload_n hx hb dX1_read_101 rfl (lv_at hl 0 rfl) ?_
              refine lv_if_ne (tgt := 108) hx hb dX1_read_102 (by decide) (fun c9 => absurd (by decide) c9) (fun _ => ?_)
              refine lv_bipush (v := (-9)) hx hb dX1_read_105 (by decide) ?_
              have hP : va_P g.1 vwCl [(q_this, .inr (1, [.ref q_bytes, .int v_length, .int u13.2.1, .int u13.2.2.1, .int u13.2.2.2.1, .int u13.2.2.2.2.1])), (q_a1, .inr (4, [.int u13.2.2.2.2.2.1, .int v_a1_hates, .int v_a1_sight, .int v_a1_sightTold, .ref q_a1_flashes, .ref q_a1_haters])), (q_a1_haters, .inl (g.2.1, 6, .inl f_a1_haters)), (q_bytes, .inl (g.2.1, 120, .inl f_bytes)), (q_a1_flashes, .inl (g.2.1, 6, .inl u13.2.2.2.2.2.2))] H := hP.sub [1, 2, 0, 3, 4] rfl
              have hD : va_D A [(q_this, .inr (1, [.ref q_bytes, .int v_length, .int u13.2.1, .int u13.2.2.1, .int u13.2.2.2.1, .int u13.2.2.2.2.1])), (q_a1, .inr (4, [.int u13.2.2.2.2.2.1, .int v_a1_hates, .int v_a1_sight, .int v_a1_sightTold, .ref q_a1_flashes, .ref q_a1_haters])), (q_a1_haters, .inl (g.2.1, 6, .inl f_a1_haters)), (q_bytes, .inl (g.2.1, 120, .inl f_bytes)), (q_a1_flashes, .inl (g.2.1, 6, .inl u13.2.2.2.2.2.2))] := hD.sub [1, 2, 0, 3, 4] (by decide) rfl
              cases hres
              exact ret_i C0 hP hD hS dX1_read_107
            · have hres := it_f hres c14
              refine lv_goto (tgt := 95) hx hb dX1_read_55 (by decide) ?_
              refine lv_iconst (v := 1) hx hb dX1_read_95 (by decide) ?_
              refine lv_goto (tgt := 100) hx hb dX1_read_96 (by decide) ?_
              refine lv_istore_n (lv' := [(3, .int 1), (0, .ref q_this), (1, .ref q_a1), (2, .int x2)]) hx hb dX1_read_100 rfl hl (by decide) rfl (fun ls hl => ?_)
              refine lv_iload_n hx hb dX1_read_101 rfl (lv_at hl 0 rfl) ?_
              refine lv_if_ne (tgt := 108) hx hb dX1_read_102 (by decide) (fun _ => ?_) (fun c9 => absurd c9 (by decide))
              refine lv_iinc (v := (x2 + 1)) (lv' := [(2, .int (x2 + 1)), (3, .int 1), (0, .ref q_this), (1, .ref q_a1)]) hx hb dX1_read_108 hl (k := 3) rfl rfl (by decide) rfl (fun ls hl => ?_)
              refine lv_goto (tgt := 11) hx hb dX1_read_111 (by decide) ?_
              have hP : va_P g.1 vwCl [(q_this, .inr (1, [.ref q_bytes, .int v_length, .int u13.2.1, .int u13.2.2.1, .int u13.2.2.2.1, .int u13.2.2.2.2.1])), (q_a1, .inr (4, [.int u13.2.2.2.2.2.1, .int v_a1_hates, .int v_a1_sight, .int v_a1_sightTold, .ref q_a1_flashes, .ref q_a1_haters])), (q_a1_haters, .inl (g.2.1, 6, .inl f_a1_haters)), (q_bytes, .inl (g.2.1, 120, .inl f_bytes)), (q_a1_flashes, .inl (g.2.1, 6, .inl u13.2.2.2.2.2.2))] H := hP.sub [1, 2, 0, 3, 4] rfl
              have hD : va_D A [(q_this, .inr (1, [.ref q_bytes, .int v_length, .int u13.2.1, .int u13.2.2.1, .int u13.2.2.2.1, .int u13.2.2.2.2.1])), (q_a1, .inr (4, [.int u13.2.2.2.2.2.1, .int v_a1_hates, .int v_a1_sight, .int v_a1_sightTold, .ref q_a1_flashes, .ref q_a1_haters])), (q_a1_haters, .inl (g.2.1, 6, .inl f_a1_haters)), (q_bytes, .inl (g.2.1, 120, .inl f_bytes)), (q_a1_flashes, .inl (g.2.1, 6, .inl u13.2.2.2.2.2.2))] := hD.sub [1, 2, 0, 3, 4] (by decide) rfl
              have hl : lv_has ls 4 [(0, .ref q_this), (1, .ref q_a1), (2, .int (x2 + 1))] := lv_sub hl [2, 3, 0] rfl
              exact ih hP hD hS hl hres
      · have hres := it_t hres c4
        refine lv_iload_n hx hb dX1_read_28 rfl (lv_at hl 2 rfl) ?_
        have hP : va_P g.1 vwCl [(q_this, .inr (1, [.ref q_bytes, .int v_length, .int u3.1, .int u3.2.1, .int u3.2.2.1, .int u3.2.2.2])), (q_a1, .inr (4, [.int v_a1_keepers, .int v_a1_hates, .int v_a1_sight, .int v_a1_sightTold, .ref q_a1_flashes, .ref q_a1_haters])), (q_a1_haters, .inl (g.2.1, 6, .inl f_a1_haters)), (q_bytes, .inl (g.2.1, 120, .inl f_bytes)), (q_a1_flashes, .inl (g.2.1, 6, .inl f_a1_flashes))] H := hP.sub [3, 0, 1, 4, 2] rfl
        have hD : va_D A [(q_this, .inr (1, [.ref q_bytes, .int v_length, .int u3.1, .int u3.2.1, .int u3.2.2.1, .int u3.2.2.2])), (q_a1, .inr (4, [.int v_a1_keepers, .int v_a1_hates, .int v_a1_sight, .int v_a1_sightTold, .ref q_a1_flashes, .ref q_a1_haters])), (q_a1_haters, .inl (g.2.1, 6, .inl f_a1_haters)), (q_bytes, .inl (g.2.1, 120, .inl f_bytes)), (q_a1_flashes, .inl (g.2.1, 6, .inl f_a1_flashes))] := hD.sub [3, 0, 1, 4, 2] (by decide) rfl
        cases hres
        exact ret_i C0 hP hD hS dX1_read_29
set_option maxHeartbeats 4000000 in
set_option maxRecDepth 100000 in
theorem c_X1_read (l : Launch) (g : gG) {q_this q_bytes q_a1 q_a1_flashes q_a1_haters : Nat} {v_length : Int32} {v_place : Int32} {v_end : Int32} {v_token : Int32} {v_value : Int32} {v_a1_keepers : Int32} {v_a1_hates : Int32} {v_a1_sight : Int32} {v_a1_sightTold : Int32} {f_a1_haters : Nat → Int32} {f_bytes : Nat → Int32} {f_a1_flashes : Nat → Int32} {u0 : Int32 × Int32 × Int32 × Int32 × Int32 × Int32 × Int32 × Int32 × Int32 × (Nat → Int32) × (Nat → Int32)} (hres : f_X1_read v_length v_place v_token v_value f_a1_haters f_bytes f_a1_flashes = some u0) : Ci l g yX1_read wsX1_read rm_X1_read [.ref q_this, .ref q_a1] [(q_this, .inr (1, [.ref q_bytes, .int v_length, .int v_place, .int v_end, .int v_token, .int v_value])), (q_a1, .inr (4, [.int v_a1_keepers, .int v_a1_hates, .int v_a1_sight, .int v_a1_sightTold, .ref q_a1_flashes, .ref q_a1_haters])), (q_a1_haters, .inl (g.2.1, 6, .inl f_a1_haters)), (q_bytes, .inl (g.2.1, 120, .inl f_bytes)), (q_a1_flashes, .inl (g.2.1, 6, .inl f_a1_flashes))] [(q_this, .inr (1, [.ref q_bytes, .int v_length, .int u0.2.1, .int u0.2.2.1, .int u0.2.2.2.1, .int u0.2.2.2.2.1])), (q_a1, .inr (4, [.int u0.2.2.2.2.2.1, .int u0.2.2.2.2.2.2.1, .int u0.2.2.2.2.2.2.2.1, .int u0.2.2.2.2.2.2.2.2.1, .ref q_a1_flashes, .ref q_a1_haters])), (q_a1_haters, .inl (g.2.1, 6, .inl u0.2.2.2.2.2.2.2.2.2.1)), (q_bytes, .inl (g.2.1, 120, .inl f_bytes)), (q_a1_flashes, .inl (g.2.1, 6, .inl u0.2.2.2.2.2.2.2.2.2.2))] u0.1 := by
  intro sz
  refine gBody (Qf := fun A => gQi g [(q_this, .inr (1, [.ref q_bytes, .int v_length, .int u0.2.1, .int u0.2.2.1, .int u0.2.2.2.1, .int u0.2.2.2.2.1])), (q_a1, .inr (4, [.int u0.2.2.2.2.2.1, .int u0.2.2.2.2.2.2.1, .int u0.2.2.2.2.2.2.2.1, .int u0.2.2.2.2.2.2.2.2.1, .ref q_a1_flashes, .ref q_a1_haters])), (q_a1_haters, .inl (g.2.1, 6, .inl u0.2.2.2.2.2.2.2.2.2.1)), (q_bytes, .inl (g.2.1, 120, .inl f_bytes)), (q_a1_flashes, .inl (g.2.1, 6, .inl u0.2.2.2.2.2.2.2.2.2.2))] u0.1 A) (cc := cX1_read) (maxL := 4) (ret := (some .int)) (own := RX1) (by decide +kernel) rfl rfl (Nat.le_of_ble_eq_true rfl) ?_
  intro p e s m args below meth c A C0 H hS hD hP ls hl
  obtain ⟨hx, hb, hml, hown, hts, hr, hlk, hN, hK, hF, hA⟩ := id C0
  have hl : lv_has ls 4 [(0, .ref q_this), (1, .ref q_a1)] := hl
  unfold f_X1_read at hres
  refine lv_aload_n hx hb dX1_read_0 rfl (lv_at hl 1 rfl) ?_
  obtain ⟨u1, hu1, hres⟩ := bd hres
  refine k_v C0 (run_V (As := []) (rest := []) C0 (c_X4_begin l g (q_this := q_a1) (q_flashes := q_a1_flashes) (q_haters := q_a1_haters) (v_keepers := v_a1_keepers) (v_hates := v_a1_hates) (v_sight := v_a1_sight) (v_sightTold := v_a1_sightTold) (f_haters := f_a1_haters) (u0 := u1) hu1 _) 0 gX1_read_X4_begin rfl rfl rfl hd_X4_begin ⟨Nat.le_of_ble_eq_true rfl, Nat.le_of_ble_eq_true rfl⟩ hP hD hS [1, 2] rfl rfl 1 4 rfl rfl rfl hl.1 rfl (Nat.le_of_ble_eq_true rfl) ⟨Nat.zero_le _, Nat.zero_le _⟩ dX1_read_1) hP hD hS [1, 2] [0, 3, 4] rfl rfl rfl (by decide) (fun H locs hP hD hS => ?_)
  have hP : va_P g.1 vwCl [(q_this, .inr (1, [.ref q_bytes, .int v_length, .int v_place, .int v_end, .int v_token, .int v_value])), (q_bytes, .inl (g.2.1, 120, .inl f_bytes)), (q_a1_flashes, .inl (g.2.1, 6, .inl f_a1_flashes)), (q_a1, .inr (4, [.int u1.1, .int u1.2.1, .int u1.2.2.1, .int u1.2.2.2.1, .ref q_a1_flashes, .ref q_a1_haters])), (q_a1_haters, .inl (g.2.1, 6, .inl u1.2.2.2.2))] H := hP
  have hD : va_D A [(q_this, .inr (1, [.ref q_bytes, .int v_length, .int v_place, .int v_end, .int v_token, .int v_value])), (q_bytes, .inl (g.2.1, 120, .inl f_bytes)), (q_a1_flashes, .inl (g.2.1, 6, .inl f_a1_flashes)), (q_a1, .inr (4, [.int u1.1, .int u1.2.1, .int u1.2.2.1, .int u1.2.2.2.1, .ref q_a1_flashes, .ref q_a1_haters])), (q_a1_haters, .inl (g.2.1, 6, .inl u1.2.2.2.2))] := hD
  refine lv_aload_n hx hb dX1_read_4 rfl (lv_at hl 0 rfl) ?_
  refine lv_iconst (v := 0) hx hb dX1_read_5 (by decide) ?_
  refine va_put (D := g.1) (ci := 1) (v := .int 0) (ty := .int) (C := RX1) (T := TX1) (N := 6) hx hb hts in_X1_read_X1 tyX1 tyX1_ok nmX1 hown hK hP hD hS 0 rfl rfl 3 (by decide) (hts (.fieldLink RX1 28 "LightKeepers$Reader" "end" "I") (List.mem_of_getElem? (i := 1) rfl)) (fun _ h9 => h9) rfl (tyX1_ok 3 (by decide)) rfl rfl (Nat.le_of_ble_eq_true rfl) dX1_read_6 (fun H locs hP hD hS => ?_)
  have hP : va_P g.1 vwCl [(q_this, .inr (1, [.ref q_bytes, .int v_length, .int v_place, .int 0, .int v_token, .int v_value])), (q_bytes, .inl (g.2.1, 120, .inl f_bytes)), (q_a1_flashes, .inl (g.2.1, 6, .inl f_a1_flashes)), (q_a1, .inr (4, [.int u1.1, .int u1.2.1, .int u1.2.2.1, .int u1.2.2.2.1, .ref q_a1_flashes, .ref q_a1_haters])), (q_a1_haters, .inl (g.2.1, 6, .inl u1.2.2.2.2))] H := hP
  have hD : va_D A [(q_this, .inr (1, [.ref q_bytes, .int v_length, .int v_place, .int 0, .int v_token, .int v_value])), (q_bytes, .inl (g.2.1, 120, .inl f_bytes)), (q_a1_flashes, .inl (g.2.1, 6, .inl f_a1_flashes)), (q_a1, .inr (4, [.int u1.1, .int u1.2.1, .int u1.2.2.1, .int u1.2.2.2.1, .ref q_a1_flashes, .ref q_a1_haters])), (q_a1_haters, .inl (g.2.1, 6, .inl u1.2.2.2.2))] := hD
  refine lv_iconst (v := 0) hx hb dX1_read_9 (by decide) ?_
  refine lv_istore_n (lv' := [(2, .int 0), (0, .ref q_this), (1, .ref q_a1)]) hx hb dX1_read_10 rfl hl (by decide) rfl (fun ls hl => ?_)
  have hP : va_P g.1 vwCl [(q_this, .inr (1, [.ref q_bytes, .int v_length, .int v_place, .int 0, .int v_token, .int v_value])), (q_a1, .inr (4, [.int u1.1, .int u1.2.1, .int u1.2.2.1, .int u1.2.2.2.1, .ref q_a1_flashes, .ref q_a1_haters])), (q_a1_haters, .inl (g.2.1, 6, .inl u1.2.2.2.2)), (q_bytes, .inl (g.2.1, 120, .inl f_bytes)), (q_a1_flashes, .inl (g.2.1, 6, .inl f_a1_flashes))] H := hP.sub [0, 3, 4, 1, 2] rfl
  have hD : va_D A [(q_this, .inr (1, [.ref q_bytes, .int v_length, .int v_place, .int 0, .int v_token, .int v_value])), (q_a1, .inr (4, [.int u1.1, .int u1.2.1, .int u1.2.2.1, .int u1.2.2.2.1, .ref q_a1_flashes, .ref q_a1_haters])), (q_a1_haters, .inl (g.2.1, 6, .inl u1.2.2.2.2)), (q_bytes, .inl (g.2.1, 120, .inl f_bytes)), (q_a1_flashes, .inl (g.2.1, 6, .inl f_a1_flashes))] := hD.sub [0, 3, 4, 1, 2] (by decide) rfl
  have hl : lv_has ls 4 [(0, .ref q_this), (1, .ref q_a1), (2, .int 0)] := lv_sub hl [1, 2, 0] rfl
  refine w_X1_read_L11 C0 hP hD hS hl hres (fun y15 y16 y17 y18 y19 y20 y21 y22 y23 y24 y25 H locs ls hP hD hS hl hres => ?_)
  refine lv_bipush (v := (-9)) hx hb dX1_read_114 (by decide) ?_
  cases hres
  exact ret_i C0 hP hD hS dX1_read_116
set_option maxHeartbeats 4000000 in
set_option maxRecDepth 100000 in
theorem c_X2_renew (l : Launch) (g : gG) {q_this q_shore q_moons q_firsts q_queue : Nat} {v_safe : Int32} {v_queued : Int32} {v_from : Int32} {u0 : Int32} (hres : f_X2_renew  = some u0) : Cv l g yX2_renew wsX2_renew rm_X2_renew [.ref q_this] [(q_this, .inr (2, [.ref q_shore, .int v_safe, .ref q_moons, .ref q_firsts, .ref q_queue, .int v_queued, .int v_from]))] [(q_this, .inr (2, [.ref q_shore, .int v_safe, .ref q_moons, .ref q_firsts, .ref q_queue, .int v_queued, .int u0]))] := by
  intro sz
  refine gBody (Qf := fun A => gQv g [(q_this, .inr (2, [.ref q_shore, .int v_safe, .ref q_moons, .ref q_firsts, .ref q_queue, .int v_queued, .int u0]))] A) (cc := cX2_renew) (maxL := 1) (ret := none) (own := RX2) (by decide +kernel) rfl rfl (Nat.le_of_ble_eq_true rfl) ?_
  intro p e s m args below meth c A C0 H hS hD hP ls hl
  obtain ⟨hx, hb, hml, hown, hts, hr, hlk, hN, hK, hF, hA⟩ := id C0
  have hl : lv_has ls 1 [(0, .ref q_this)] := hl
  unfold f_X2_renew at hres
  refine lv_aload_n hx hb dX2_renew_0 rfl (lv_at hl 0 rfl) ?_
  refine lv_bipush (v := (-9)) hx hb dX2_renew_1 (by decide) ?_
  refine va_put (D := g.1) (ci := 2) (v := .int (-9)) (ty := .int) (C := RX2) (T := TX2) (N := 7) hx hb hts in_X2_renew_X2 tyX2 tyX2_ok nmX2 hown hK hP hD hS 0 rfl rfl 6 (by decide) (hts (.fieldLink RX2 21 "LightKeepers$Search" "from" "I") (List.mem_of_getElem? (i := 1) rfl)) (fun _ h9 => h9) rfl (tyX2_ok 6 (by decide)) rfl rfl (Nat.le_of_ble_eq_true rfl) dX2_renew_3 (fun H locs hP hD hS => ?_)
  have hP : va_P g.1 vwCl [(q_this, .inr (2, [.ref q_shore, .int v_safe, .ref q_moons, .ref q_firsts, .ref q_queue, .int v_queued, .int (-9)]))] H := hP
  have hD : va_D A [(q_this, .inr (2, [.ref q_shore, .int v_safe, .ref q_moons, .ref q_firsts, .ref q_queue, .int v_queued, .int (-9)]))] := hD
  cases hres
  exact ret_v C0 hP hD hS dX2_renew_6
set_option maxHeartbeats 4000000 in
set_option maxRecDepth 100000 in
theorem c_X2_enter (l : Launch) (g : gG) {q_this q_shore q_moons q_firsts q_queue : Nat} {v_safe : Int32} {v_queued : Int32} {v_from : Int32} {f_moons : Nat → Int32} {f_firsts : Nat → Int32} {f_queue : Nat → Int32} {x1 : Int32} {x2 : Int32} {x3 : Int32} {u0 : Int32 × (Nat → Int32) × (Nat → Int32) × (Nat → Int32)} (hres : f_X2_enter v_queued f_moons f_firsts f_queue x1 x2 x3 = some u0) : Cv l g yX2_enter wsX2_enter rm_X2_enter [.ref q_this, .int x1, .int x2, .int x3] [(q_this, .inr (2, [.ref q_shore, .int v_safe, .ref q_moons, .ref q_firsts, .ref q_queue, .int v_queued, .int v_from])), (q_moons, .inl (g.2.1, 720, .inl f_moons)), (q_firsts, .inl (g.2.1, 720, .inl f_firsts)), (q_queue, .inl (g.2.1, 720, .inl f_queue))] [(q_this, .inr (2, [.ref q_shore, .int v_safe, .ref q_moons, .ref q_firsts, .ref q_queue, .int u0.1, .int v_from])), (q_moons, .inl (g.2.1, 720, .inl u0.2.1)), (q_firsts, .inl (g.2.1, 720, .inl u0.2.2.1)), (q_queue, .inl (g.2.1, 720, .inl u0.2.2.2))] := by
  intro sz
  refine gBody (Qf := fun A => gQv g [(q_this, .inr (2, [.ref q_shore, .int v_safe, .ref q_moons, .ref q_firsts, .ref q_queue, .int u0.1, .int v_from])), (q_moons, .inl (g.2.1, 720, .inl u0.2.1)), (q_firsts, .inl (g.2.1, 720, .inl u0.2.2.1)), (q_queue, .inl (g.2.1, 720, .inl u0.2.2.2))] A) (cc := cX2_enter) (maxL := 4) (ret := none) (own := RX2) (by decide +kernel) rfl rfl (Nat.le_of_ble_eq_true rfl) ?_
  intro p e s m args below meth c A C0 H hS hD hP ls hl
  obtain ⟨hx, hb, hml, hown, hts, hr, hlk, hN, hK, hF, hA⟩ := id C0
  have hl : lv_has ls 4 [(0, .ref q_this), (1, .int x1), (2, .int x2), (3, .int x3)] := hl
  unfold f_X2_enter at hres
  refine lv_aload_n hx hb dX2_enter_0 rfl (lv_at hl 0 rfl) ?_
  refine va_get (D := g.1) (ci := 2) (v := .ref q_moons) (C := RX2) (T := TX2) (N := 7) hx hb hts in_X2_enter_X2 hown hK hP 0 rfl rfl 2 (by decide) (hts (.fieldLink RX2 9 "LightKeepers$Search" "moons" "[I") (List.mem_of_getElem? (i := 1) rfl)) (fun _ h9 => h9) rfl dX2_enter_1 ?_
  refine lv_iload_n hx hb dX2_enter_4 rfl (lv_at hl 1 rfl) ?_
  refine lv_iload_n hx hb dX2_enter_5 rfl (lv_at hl 2 rfl) ?_
  obtain ⟨u1, hu1, hres⟩ := bd hres
  refine k_v C0 (run_SN (As := [.ref q_moons, .int x1, .int x2]) (rest := []) C0 (c_X6_put l g (q_a0 := q_moons) (n_a0 := 720) (f_a0 := f_moons) (x1 := x1) (x2 := x2) (u0 := u1) hu1 _) 3 gX2_enter_X6_put_n78 rfl rfl rfl (List.mem_of_getElem? (i := 9) rfl) (List.mem_of_getElem? (i := 5) rfl) (List.mem_of_getElem? (i := 6) rfl) hd_X6_put ⟨Nat.le_of_ble_eq_true rfl, Nat.le_of_ble_eq_true rfl⟩ hP hD hS [1] rfl rfl rfl hl.1 rfl (Nat.le_of_ble_eq_true rfl) ⟨Nat.zero_le _, Nat.zero_le _⟩ dX2_enter_6) hP hD hS [1] [0, 2, 3] rfl rfl rfl (by decide) (fun H locs hP hD hS => ?_)
  have hP : va_P g.1 vwCl [(q_this, .inr (2, [.ref q_shore, .int v_safe, .ref q_moons, .ref q_firsts, .ref q_queue, .int v_queued, .int v_from])), (q_firsts, .inl (g.2.1, 720, .inl f_firsts)), (q_queue, .inl (g.2.1, 720, .inl f_queue)), (q_moons, .inl (g.2.1, 720, .inl u1))] H := hP
  have hD : va_D A [(q_this, .inr (2, [.ref q_shore, .int v_safe, .ref q_moons, .ref q_firsts, .ref q_queue, .int v_queued, .int v_from])), (q_firsts, .inl (g.2.1, 720, .inl f_firsts)), (q_queue, .inl (g.2.1, 720, .inl f_queue)), (q_moons, .inl (g.2.1, 720, .inl u1))] := hD
  refine lv_aload_n hx hb dX2_enter_9 rfl (lv_at hl 0 rfl) ?_
  refine va_get (D := g.1) (ci := 2) (v := .ref q_firsts) (C := RX2) (T := TX2) (N := 7) hx hb hts in_X2_enter_X2 hown hK hP 0 rfl rfl 3 (by decide) (hts (.fieldLink RX2 15 "LightKeepers$Search" "firsts" "[I") (List.mem_of_getElem? (i := 2) rfl)) (fun _ h9 => h9) rfl dX2_enter_10 ?_
  refine lv_iload_n hx hb dX2_enter_13 rfl (lv_at hl 1 rfl) ?_
  refine lv_iload_n hx hb dX2_enter_14 rfl (lv_at hl 3 rfl) ?_
  obtain ⟨u2, hu2, hres⟩ := bd hres
  refine k_v C0 (run_SN (As := [.ref q_firsts, .int x1, .int x3]) (rest := []) C0 (c_X6_put l g (q_a0 := q_firsts) (n_a0 := 720) (f_a0 := f_firsts) (x1 := x1) (x2 := x3) (u0 := u2) hu2 _) 3 gX2_enter_X6_put_n78 rfl rfl rfl (List.mem_of_getElem? (i := 9) rfl) (List.mem_of_getElem? (i := 5) rfl) (List.mem_of_getElem? (i := 6) rfl) hd_X6_put ⟨Nat.le_of_ble_eq_true rfl, Nat.le_of_ble_eq_true rfl⟩ hP hD hS [1] rfl rfl rfl hl.1 rfl (Nat.le_of_ble_eq_true rfl) ⟨Nat.zero_le _, Nat.zero_le _⟩ dX2_enter_15) hP hD hS [1] [0, 2, 3] rfl rfl rfl (by decide) (fun H locs hP hD hS => ?_)
  have hP : va_P g.1 vwCl [(q_this, .inr (2, [.ref q_shore, .int v_safe, .ref q_moons, .ref q_firsts, .ref q_queue, .int v_queued, .int v_from])), (q_queue, .inl (g.2.1, 720, .inl f_queue)), (q_moons, .inl (g.2.1, 720, .inl u1)), (q_firsts, .inl (g.2.1, 720, .inl u2))] H := hP
  have hD : va_D A [(q_this, .inr (2, [.ref q_shore, .int v_safe, .ref q_moons, .ref q_firsts, .ref q_queue, .int v_queued, .int v_from])), (q_queue, .inl (g.2.1, 720, .inl f_queue)), (q_moons, .inl (g.2.1, 720, .inl u1)), (q_firsts, .inl (g.2.1, 720, .inl u2))] := hD
  refine lv_aload_n hx hb dX2_enter_18 rfl (lv_at hl 0 rfl) ?_
  refine va_get (D := g.1) (ci := 2) (v := .ref q_queue) (C := RX2) (T := TX2) (N := 7) hx hb hts in_X2_enter_X2 hown hK hP 0 rfl rfl 4 (by decide) (hts (.fieldLink RX2 18 "LightKeepers$Search" "queue" "[I") (List.mem_of_getElem? (i := 3) rfl)) (fun _ h9 => h9) rfl dX2_enter_19 ?_
  refine lv_aload_n hx hb dX2_enter_22 rfl (lv_at hl 0 rfl) ?_
  refine va_get (D := g.1) (ci := 2) (v := .int v_queued) (C := RX2) (T := TX2) (N := 7) hx hb hts in_X2_enter_X2 hown hK hP 0 rfl rfl 5 (by decide) (hts (.fieldLink RX2 33 "LightKeepers$Search" "queued" "I") (List.mem_of_getElem? (i := 4) rfl)) (fun _ h9 => h9) rfl dX2_enter_23 ?_
  refine lv_iload_n hx hb dX2_enter_26 rfl (lv_at hl 1 rfl) ?_
  obtain ⟨u3, hu3, hres⟩ := bd hres
  refine k_v C0 (run_SN (As := [.ref q_queue, .int v_queued, .int x1]) (rest := []) C0 (c_X6_put l g (q_a0 := q_queue) (n_a0 := 720) (f_a0 := f_queue) (x1 := v_queued) (x2 := x1) (u0 := u3) hu3 _) 3 gX2_enter_X6_put_n78 rfl rfl rfl (List.mem_of_getElem? (i := 9) rfl) (List.mem_of_getElem? (i := 5) rfl) (List.mem_of_getElem? (i := 6) rfl) hd_X6_put ⟨Nat.le_of_ble_eq_true rfl, Nat.le_of_ble_eq_true rfl⟩ hP hD hS [1] rfl rfl rfl hl.1 rfl (Nat.le_of_ble_eq_true rfl) ⟨Nat.zero_le _, Nat.zero_le _⟩ dX2_enter_27) hP hD hS [1] [0, 2, 3] rfl rfl rfl (by decide) (fun H locs hP hD hS => ?_)
  have hP : va_P g.1 vwCl [(q_this, .inr (2, [.ref q_shore, .int v_safe, .ref q_moons, .ref q_firsts, .ref q_queue, .int v_queued, .int v_from])), (q_moons, .inl (g.2.1, 720, .inl u1)), (q_firsts, .inl (g.2.1, 720, .inl u2)), (q_queue, .inl (g.2.1, 720, .inl u3))] H := hP
  have hD : va_D A [(q_this, .inr (2, [.ref q_shore, .int v_safe, .ref q_moons, .ref q_firsts, .ref q_queue, .int v_queued, .int v_from])), (q_moons, .inl (g.2.1, 720, .inl u1)), (q_firsts, .inl (g.2.1, 720, .inl u2)), (q_queue, .inl (g.2.1, 720, .inl u3))] := hD
  refine lv_aload_n hx hb dX2_enter_30 rfl (lv_at hl 0 rfl) ?_
  refine lv_dup hx hb dX2_enter_31 rfl ?_
  refine va_get (D := g.1) (ci := 2) (v := .int v_queued) (C := RX2) (T := TX2) (N := 7) hx hb hts in_X2_enter_X2 hown hK hP 0 rfl rfl 5 (by decide) (hts (.fieldLink RX2 33 "LightKeepers$Search" "queued" "I") (List.mem_of_getElem? (i := 4) rfl)) (fun _ h9 => h9) rfl dX2_enter_32 ?_
  refine lv_iconst (v := 1) hx hb dX2_enter_35 (by decide) ?_
  refine lv_iadd hx hb dX2_enter_36 ?_
  refine va_put (D := g.1) (ci := 2) (v := .int (v_queued + 1)) (ty := .int) (C := RX2) (T := TX2) (N := 7) hx hb hts in_X2_enter_X2 tyX2 tyX2_ok nmX2 hown hK hP hD hS 0 rfl rfl 5 (by decide) (hts (.fieldLink RX2 33 "LightKeepers$Search" "queued" "I") (List.mem_of_getElem? (i := 4) rfl)) (fun _ h9 => h9) rfl (tyX2_ok 5 (by decide)) rfl rfl (Nat.le_of_ble_eq_true rfl) dX2_enter_37 (fun H locs hP hD hS => ?_)
  have hP : va_P g.1 vwCl [(q_this, .inr (2, [.ref q_shore, .int v_safe, .ref q_moons, .ref q_firsts, .ref q_queue, .int (v_queued + 1), .int v_from])), (q_moons, .inl (g.2.1, 720, .inl u1)), (q_firsts, .inl (g.2.1, 720, .inl u2)), (q_queue, .inl (g.2.1, 720, .inl u3))] H := hP
  have hD : va_D A [(q_this, .inr (2, [.ref q_shore, .int v_safe, .ref q_moons, .ref q_firsts, .ref q_queue, .int (v_queued + 1), .int v_from])), (q_moons, .inl (g.2.1, 720, .inl u1)), (q_firsts, .inl (g.2.1, 720, .inl u2)), (q_queue, .inl (g.2.1, 720, .inl u3))] := hD
  cases hres
  exact ret_v C0 hP hD hS dX2_enter_40
set_option maxHeartbeats 4000000 in
set_option maxRecDepth 100000 in
theorem c_X4_flashOf (l : Launch) (g : gG) {q_this q_flashes q_haters : Nat} {v_keepers : Int32} {v_hates : Int32} {v_sight : Int32} {v_sightTold : Int32} {f_flashes : Nat → Int32} {x1 : Int32} {u0 : Int32} (hres : f_X4_flashOf f_flashes x1 = some u0) : Ci l g yX4_flashOf wsX4_flashOf rm_X4_flashOf [.ref q_this, .int x1] [(q_this, .inr (4, [.int v_keepers, .int v_hates, .int v_sight, .int v_sightTold, .ref q_flashes, .ref q_haters])), (q_flashes, .inl (g.2.1, 6, .inl f_flashes))] [(q_this, .inr (4, [.int v_keepers, .int v_hates, .int v_sight, .int v_sightTold, .ref q_flashes, .ref q_haters])), (q_flashes, .inl (g.2.1, 6, .inl f_flashes))] u0 := by
  intro sz
  refine gBody (Qf := fun A => gQi g [(q_this, .inr (4, [.int v_keepers, .int v_hates, .int v_sight, .int v_sightTold, .ref q_flashes, .ref q_haters])), (q_flashes, .inl (g.2.1, 6, .inl f_flashes))] u0 A) (cc := cX4_flashOf) (maxL := 2) (ret := (some .int)) (own := RX4) (by decide +kernel) rfl rfl (Nat.le_of_ble_eq_true rfl) ?_
  intro p e s m args below meth c A C0 H hS hD hP ls hl
  obtain ⟨hx, hb, hml, hown, hts, hr, hlk, hN, hK, hF, hA⟩ := id C0
  have hl : lv_has ls 2 [(0, .ref q_this), (1, .int x1)] := hl
  unfold f_X4_flashOf at hres
  refine lv_iload_n hx hb dX4_flashOf_0 rfl (lv_at hl 1 rfl) ?_
  refine lv_if_lt (tgt := 19) hx hb dX4_flashOf_1 (by decide) (fun c1 => ?_) (fun c1 => ?_)
  · have hres := it_t hres c1
    refine lv_iconst (v := 0) hx hb dX4_flashOf_19 (by decide) ?_
    cases hres
    exact ret_i C0 hP hD hS dX4_flashOf_20
  · have hres := it_f hres c1
    refine lv_iload_n hx hb dX4_flashOf_4 rfl (lv_at hl 1 rfl) ?_
    refine lv_bipush (v := 6) hx hb dX4_flashOf_5 (by decide) ?_
    refine lv_icmp_ge (tgt := 19) hx hb dX4_flashOf_7 (by decide) (fun c2 => ?_) (fun c2 => ?_)
    · have hres := it_t hres c2
      refine lv_iconst (v := 0) hx hb dX4_flashOf_19 (by decide) ?_
      cases hres
      exact ret_i C0 hP hD hS dX4_flashOf_20
    · have hres := it_f hres c2
      refine lv_aload_n hx hb dX4_flashOf_10 rfl (lv_at hl 0 rfl) ?_
      refine va_get (D := g.1) (ci := 4) (v := .ref q_flashes) (C := RX4) (T := TX4) (N := 6) hx hb hts in_X4_flashOf_X4 hown hK hP 0 rfl rfl 4 (by decide) (hts (.fieldLink RX4 15 "LightKeepers$Told" "flashes" "[I") (List.mem_of_getElem? (i := 1) rfl)) (fun _ h9 => h9) rfl dX4_flashOf_11 ?_
      refine lv_iload_n hx hb dX4_flashOf_14 rfl (lv_at hl 1 rfl) ?_
      have c3 := gd1 hres
      have hres := gd2 hres
      refine va_iald hx hb hK hP 1 0 rfl rfl (show vp_in _ _ from c3) dX4_flashOf_15 ?_
      refine lv_goto (tgt := 20) hx hb dX4_flashOf_16 (by decide) ?_
      cases hres
      exact ret_i C0 hP hD hS dX4_flashOf_20
set_option maxHeartbeats 4000000 in
set_option maxRecDepth 100000 in
theorem c_X5_who (l : Launch) (g : gG) {q_this q_keepers q_changed q_row : Nat} {v_rocks : Int32} {v_many : Int32} {f_keepers : Nat → Int32} {x1 : Int32} {x2 : Int32} {u0 : Int32} (hres : f_X5_who f_keepers x1 x2 = some u0) : Ci l g yX5_who wsX5_who rm_X5_who [.ref q_this, .int x1, .int x2] [(q_this, .inr (5, [.int v_rocks, .int v_many, .ref q_keepers, .ref q_changed, .ref q_row])), (q_keepers, .inl (g.2.1, 4320, .inl f_keepers))] [(q_this, .inr (5, [.int v_rocks, .int v_many, .ref q_keepers, .ref q_changed, .ref q_row])), (q_keepers, .inl (g.2.1, 4320, .inl f_keepers))] u0 := by
  intro sz
  refine gBody (Qf := fun A => gQi g [(q_this, .inr (5, [.int v_rocks, .int v_many, .ref q_keepers, .ref q_changed, .ref q_row])), (q_keepers, .inl (g.2.1, 4320, .inl f_keepers))] u0 A) (cc := cX5_who) (maxL := 3) (ret := (some .int)) (own := RX5) (by decide +kernel) rfl rfl (Nat.le_of_ble_eq_true rfl) ?_
  intro p e s m args below meth c A C0 H hS hD hP ls hl
  obtain ⟨hx, hb, hml, hown, hts, hr, hlk, hN, hK, hF, hA⟩ := id C0
  have hl : lv_has ls 3 [(0, .ref q_this), (1, .int x1), (2, .int x2)] := hl
  unfold f_X5_who at hres
  refine lv_iload_n hx hb dX5_who_0 rfl (lv_at hl 1 rfl) ?_
  refine lv_if_lt (tgt := 21) hx hb dX5_who_1 (by decide) (fun c1 => ?_) (fun c1 => ?_)
  · have hres := it_t hres c1
    refine lv_bipush (v := (-9)) hx hb dX5_who_21 (by decide) ?_
    cases hres
    exact ret_i C0 hP hD hS dX5_who_23
  · have hres := it_f hres c1
    refine lv_iload_n hx hb dX5_who_4 rfl (lv_at hl 1 rfl) ?_
    refine lv_sipush (v := 720) hx hb dX5_who_5 (by decide) ?_
    refine lv_icmp_ge (tgt := 21) hx hb dX5_who_8 (by decide) (fun c2 => ?_) (fun c2 => ?_)
    · have hres := it_t hres c2
      refine lv_bipush (v := (-9)) hx hb dX5_who_21 (by decide) ?_
      cases hres
      exact ret_i C0 hP hD hS dX5_who_23
    · have hres := it_f hres c2
      refine lv_iload_n hx hb dX5_who_11 rfl (lv_at hl 2 rfl) ?_
      refine lv_if_lt (tgt := 21) hx hb dX5_who_12 (by decide) (fun c3 => ?_) (fun c3 => ?_)
      · have hres := it_t hres c3
        refine lv_bipush (v := (-9)) hx hb dX5_who_21 (by decide) ?_
        cases hres
        exact ret_i C0 hP hD hS dX5_who_23
      · have hres := it_f hres c3
        refine lv_iload_n hx hb dX5_who_15 rfl (lv_at hl 2 rfl) ?_
        refine lv_bipush (v := 6) hx hb dX5_who_16 (by decide) ?_
        refine lv_icmp_lt (tgt := 24) hx hb dX5_who_18 (by decide) (fun c4 => ?_) (fun c4 => ?_)
        · have hres := it_t hres c4
          refine lv_aload_n hx hb dX5_who_24 rfl (lv_at hl 0 rfl) ?_
          refine va_get (D := g.1) (ci := 5) (v := .ref q_keepers) (C := RX5) (T := TX5) (N := 5) hx hb hts in_X5_who_X5 hown hK hP 0 rfl rfl 2 (by decide) (hts (.fieldLink RX5 15 "LightKeepers$Ways" "keepers" "[I") (List.mem_of_getElem? (i := 1) rfl)) (fun _ h9 => h9) rfl dX5_who_25 ?_
          refine lv_iload_n hx hb dX5_who_28 rfl (lv_at hl 1 rfl) ?_
          refine lv_bipush (v := 6) hx hb dX5_who_29 (by decide) ?_
          refine lv_imul hx hb dX5_who_31 ?_
          refine lv_iload_n hx hb dX5_who_32 rfl (lv_at hl 2 rfl) ?_
          refine lv_iadd hx hb dX5_who_33 ?_
          have c5 := gd1 hres
          have hres := gd2 hres
          refine va_iald hx hb hK hP 1 0 rfl rfl (show vp_in _ _ from c5) dX5_who_34 ?_
          cases hres
          exact ret_i C0 hP hD hS dX5_who_35
        · have hres := it_f hres c4
          refine lv_bipush (v := (-9)) hx hb dX5_who_21 (by decide) ?_
          cases hres
          exact ret_i C0 hP hD hS dX5_who_23
set_option maxHeartbeats 4000000 in
set_option maxRecDepth 100000 in
theorem c_X3_flashAt (l : Launch) (g : gG) {q_this q_told q_ways q_told_flashes q_told_haters q_ways_keepers q_ways_changed q_ways_row : Nat} {v_told_keepers : Int32} {v_told_hates : Int32} {v_told_sight : Int32} {v_told_sightTold : Int32} {v_ways_rocks : Int32} {v_ways_many : Int32} {f_ways_keepers : Nat → Int32} {f_told_flashes : Nat → Int32} {x1 : Int32} {x2 : Int32} {u0 : Int32} (hres : f_X3_flashAt f_ways_keepers f_told_flashes x1 x2 = some u0) : Ci l g yX3_flashAt wsX3_flashAt rm_X3_flashAt [.ref q_this, .int x1, .int x2] [(q_this, .inr (3, [.ref q_told, .ref q_ways])), (q_told, .inr (4, [.int v_told_keepers, .int v_told_hates, .int v_told_sight, .int v_told_sightTold, .ref q_told_flashes, .ref q_told_haters])), (q_ways, .inr (5, [.int v_ways_rocks, .int v_ways_many, .ref q_ways_keepers, .ref q_ways_changed, .ref q_ways_row])), (q_ways_keepers, .inl (g.2.1, 4320, .inl f_ways_keepers)), (q_told_flashes, .inl (g.2.1, 6, .inl f_told_flashes))] [(q_this, .inr (3, [.ref q_told, .ref q_ways])), (q_told, .inr (4, [.int v_told_keepers, .int v_told_hates, .int v_told_sight, .int v_told_sightTold, .ref q_told_flashes, .ref q_told_haters])), (q_ways, .inr (5, [.int v_ways_rocks, .int v_ways_many, .ref q_ways_keepers, .ref q_ways_changed, .ref q_ways_row])), (q_ways_keepers, .inl (g.2.1, 4320, .inl f_ways_keepers)), (q_told_flashes, .inl (g.2.1, 6, .inl f_told_flashes))] u0 := by
  intro sz
  refine gBody (Qf := fun A => gQi g [(q_this, .inr (3, [.ref q_told, .ref q_ways])), (q_told, .inr (4, [.int v_told_keepers, .int v_told_hates, .int v_told_sight, .int v_told_sightTold, .ref q_told_flashes, .ref q_told_haters])), (q_ways, .inr (5, [.int v_ways_rocks, .int v_ways_many, .ref q_ways_keepers, .ref q_ways_changed, .ref q_ways_row])), (q_ways_keepers, .inl (g.2.1, 4320, .inl f_ways_keepers)), (q_told_flashes, .inl (g.2.1, 6, .inl f_told_flashes))] u0 A) (cc := cX3_flashAt) (maxL := 3) (ret := (some .int)) (own := RX3) (by decide +kernel) rfl rfl (Nat.le_of_ble_eq_true rfl) ?_
  intro p e s m args below meth c A C0 H hS hD hP ls hl
  obtain ⟨hx, hb, hml, hown, hts, hr, hlk, hN, hK, hF, hA⟩ := id C0
  have hl : lv_has ls 3 [(0, .ref q_this), (1, .int x1), (2, .int x2)] := hl
  unfold f_X3_flashAt at hres
  refine lv_aload_n hx hb dX3_flashAt_0 rfl (lv_at hl 0 rfl) ?_
  refine va_get (D := g.1) (ci := 3) (v := .ref q_told) (C := RX3) (T := TX3) (N := 2) hx hb hts in_X3_flashAt_X3 hown hK hP 0 rfl rfl 0 (by decide) (hts (.fieldLink RX3 12 "LightKeepers$Shore" "told" "LLightKeepers$Told;") (List.mem_of_getElem? (i := 1) rfl)) (fun _ h9 => h9) rfl dX3_flashAt_1 ?_
  refine lv_aload_n hx hb dX3_flashAt_4 rfl (lv_at hl 0 rfl) ?_
  refine va_get (D := g.1) (ci := 3) (v := .ref q_ways) (C := RX3) (T := TX3) (N := 2) hx hb hts in_X3_flashAt_X3 hown hK hP 0 rfl rfl 1 (by decide) (hts (.fieldLink RX3 21 "LightKeepers$Shore" "ways" "LLightKeepers$Ways;") (List.mem_of_getElem? (i := 2) rfl)) (fun _ h9 => h9) rfl dX3_flashAt_5 ?_
  refine lv_iload_n hx hb dX3_flashAt_8 rfl (lv_at hl 1 rfl) ?_
  refine lv_iload_n hx hb dX3_flashAt_9 rfl (lv_at hl 2 rfl) ?_
  obtain ⟨u1, hu1, hres⟩ := bd hres
  refine k_i C0 (run_V (As := [.int x1, .int x2]) (rest := [.ref q_told]) C0 (c_X5_who l g (q_this := q_ways) (q_keepers := q_ways_keepers) (q_changed := q_ways_changed) (q_row := q_ways_row) (v_rocks := v_ways_rocks) (v_many := v_ways_many) (f_keepers := f_ways_keepers) (x1 := x1) (x2 := x2) (u0 := u1) hu1 _) 2 gX3_flashAt_X5_who rfl rfl rfl hd_X5_who ⟨Nat.le_of_ble_eq_true rfl, Nat.le_of_ble_eq_true rfl⟩ hP hD hS [2, 3] rfl rfl 2 5 rfl rfl rfl hl.1 rfl (Nat.le_of_ble_eq_true rfl) ⟨Nat.zero_le _, Nat.zero_le _⟩ dX3_flashAt_10) hP hD hS [2, 3] [0, 1, 4] rfl rfl rfl (by decide) (fun H locs hP hD hS => ?_)
  have hP : va_P g.1 vwCl [(q_this, .inr (3, [.ref q_told, .ref q_ways])), (q_told, .inr (4, [.int v_told_keepers, .int v_told_hates, .int v_told_sight, .int v_told_sightTold, .ref q_told_flashes, .ref q_told_haters])), (q_told_flashes, .inl (g.2.1, 6, .inl f_told_flashes)), (q_ways, .inr (5, [.int v_ways_rocks, .int v_ways_many, .ref q_ways_keepers, .ref q_ways_changed, .ref q_ways_row])), (q_ways_keepers, .inl (g.2.1, 4320, .inl f_ways_keepers))] H := hP
  have hD : va_D A [(q_this, .inr (3, [.ref q_told, .ref q_ways])), (q_told, .inr (4, [.int v_told_keepers, .int v_told_hates, .int v_told_sight, .int v_told_sightTold, .ref q_told_flashes, .ref q_told_haters])), (q_told_flashes, .inl (g.2.1, 6, .inl f_told_flashes)), (q_ways, .inr (5, [.int v_ways_rocks, .int v_ways_many, .ref q_ways_keepers, .ref q_ways_changed, .ref q_ways_row])), (q_ways_keepers, .inl (g.2.1, 4320, .inl f_ways_keepers))] := hD
  obtain ⟨u2, hu2, hres⟩ := bd hres
  refine k_i C0 (run_V (As := [.int u1]) (rest := []) C0 (c_X4_flashOf l g (q_this := q_told) (q_flashes := q_told_flashes) (q_haters := q_told_haters) (v_keepers := v_told_keepers) (v_hates := v_told_hates) (v_sight := v_told_sight) (v_sightTold := v_told_sightTold) (f_flashes := f_told_flashes) (x1 := u1) (u0 := u2) hu2 _) 1 gX3_flashAt_X4_flashOf rfl rfl rfl hd_X4_flashOf ⟨Nat.le_of_ble_eq_true rfl, Nat.le_of_ble_eq_true rfl⟩ hP hD hS [1, 2] rfl rfl 1 4 rfl rfl rfl hl.1 rfl (Nat.le_of_ble_eq_true rfl) ⟨Nat.zero_le _, Nat.zero_le _⟩ dX3_flashAt_13) hP hD hS [1, 2] [0, 3, 4] rfl rfl rfl (by decide) (fun H locs hP hD hS => ?_)
  have hP : va_P g.1 vwCl [(q_this, .inr (3, [.ref q_told, .ref q_ways])), (q_ways, .inr (5, [.int v_ways_rocks, .int v_ways_many, .ref q_ways_keepers, .ref q_ways_changed, .ref q_ways_row])), (q_ways_keepers, .inl (g.2.1, 4320, .inl f_ways_keepers)), (q_told, .inr (4, [.int v_told_keepers, .int v_told_hates, .int v_told_sight, .int v_told_sightTold, .ref q_told_flashes, .ref q_told_haters])), (q_told_flashes, .inl (g.2.1, 6, .inl f_told_flashes))] H := hP
  have hD : va_D A [(q_this, .inr (3, [.ref q_told, .ref q_ways])), (q_ways, .inr (5, [.int v_ways_rocks, .int v_ways_many, .ref q_ways_keepers, .ref q_ways_changed, .ref q_ways_row])), (q_ways_keepers, .inl (g.2.1, 4320, .inl f_ways_keepers)), (q_told, .inr (4, [.int v_told_keepers, .int v_told_hates, .int v_told_sight, .int v_told_sightTold, .ref q_told_flashes, .ref q_told_haters])), (q_told_flashes, .inl (g.2.1, 6, .inl f_told_flashes))] := hD
  have hP : va_P g.1 vwCl [(q_this, .inr (3, [.ref q_told, .ref q_ways])), (q_told, .inr (4, [.int v_told_keepers, .int v_told_hates, .int v_told_sight, .int v_told_sightTold, .ref q_told_flashes, .ref q_told_haters])), (q_ways, .inr (5, [.int v_ways_rocks, .int v_ways_many, .ref q_ways_keepers, .ref q_ways_changed, .ref q_ways_row])), (q_ways_keepers, .inl (g.2.1, 4320, .inl f_ways_keepers)), (q_told_flashes, .inl (g.2.1, 6, .inl f_told_flashes))] H := hP.sub [0, 3, 1, 2, 4] rfl
  have hD : va_D A [(q_this, .inr (3, [.ref q_told, .ref q_ways])), (q_told, .inr (4, [.int v_told_keepers, .int v_told_hates, .int v_told_sight, .int v_told_sightTold, .ref q_told_flashes, .ref q_told_haters])), (q_ways, .inr (5, [.int v_ways_rocks, .int v_ways_many, .ref q_ways_keepers, .ref q_ways_changed, .ref q_ways_row])), (q_ways_keepers, .inl (g.2.1, 4320, .inl f_ways_keepers)), (q_told_flashes, .inl (g.2.1, 6, .inl f_told_flashes))] := hD.sub [0, 3, 1, 2, 4] (by decide) rfl
  cases hres
  exact ret_i C0 hP hD hS dX3_flashAt_16
set_option maxHeartbeats 4000000 in
set_option maxRecDepth 100000 in
theorem w_X3_likes_L51 {p : Program} {l : Launch} {e : Env} {s : State} {m : MethodId} {args : Array Value} {below : List Frame} {meth : Method} {c : Code} {g : gG} {A : Nat → Prop} {q_this q_told q_ways q_told_flashes q_told_haters q_ways_keepers q_ways_changed q_ways_row : Nat} {v_told_keepers : Int32} {v_told_hates : Int32} {v_told_sight : Int32} {v_told_sightTold : Int32} {v_ways_rocks : Int32} {v_ways_many : Int32} {f_ways_keepers : Nat → Int32} {f_told_flashes : Nat → Int32} {x1 : Int32} {x3 : Int32} {x4 : Int32} {x5 : Int32} {u0 : Int32} {k : Int32 → Int32 → Option (Int32)} {n : Nat} {x2 : Int32} {x6 : Int32} {H : Heap} {locs : List Loc} {ls : Array Slot} (C0 : Cx p s m args meth c RX3 cX3_likes 7 wsX3_likes (some .int) g A)
    (hP : va_P g.1 vwCl [(q_this, .inr (3, [.ref q_told, .ref q_ways])), (q_told, .inr (4, [.int v_told_keepers, .int v_told_hates, .int v_told_sight, .int v_told_sightTold, .ref q_told_flashes, .ref q_told_haters])), (q_ways, .inr (5, [.int v_ways_rocks, .int v_ways_many, .ref q_ways_keepers, .ref q_ways_changed, .ref q_ways_row])), (q_ways_keepers, .inl (g.2.1, 4320, .inl f_ways_keepers)), (q_told_flashes, .inl (g.2.1, 6, .inl f_told_flashes))] H) (hD : va_D A [(q_this, .inr (3, [.ref q_told, .ref q_ways])), (q_told, .inr (4, [.int v_told_keepers, .int v_told_hates, .int v_told_sight, .int v_told_sightTold, .ref q_told_flashes, .ref q_told_haters])), (q_ways, .inr (5, [.int v_ways_rocks, .int v_ways_many, .ref q_ways_keepers, .ref q_ways_changed, .ref q_ways_row])), (q_ways_keepers, .inl (g.2.1, 4320, .inl f_ways_keepers)), (q_told_flashes, .inl (g.2.1, 6, .inl f_told_flashes))]) (hS : va_S A s.heap H locs) (hl : lv_has ls 7 [(0, .ref q_this), (1, .int x1), (2, .int x2), (3, .int x3), (4, .int x4), (5, .int x5), (6, .int x6)]) (hres : lp_X3_likes_L51 f_ways_keepers f_told_flashes x1 x4 x5 k n x2 x6 = some u0)
    (K : ∀ (x2 : Int32) (x6 : Int32) (H : Heap) (locs : List Loc) (ls : Array Slot), va_P g.1 vwCl [(q_this, .inr (3, [.ref q_told, .ref q_ways])), (q_told, .inr (4, [.int v_told_keepers, .int v_told_hates, .int v_told_sight, .int v_told_sightTold, .ref q_told_flashes, .ref q_told_haters])), (q_ways, .inr (5, [.int v_ways_rocks, .int v_ways_many, .ref q_ways_keepers, .ref q_ways_changed, .ref q_ways_row])), (q_ways_keepers, .inl (g.2.1, 4320, .inl f_ways_keepers)), (q_told_flashes, .inl (g.2.1, 6, .inl f_told_flashes))] H → va_D A [(q_this, .inr (3, [.ref q_told, .ref q_ways])), (q_told, .inr (4, [.int v_told_keepers, .int v_told_hates, .int v_told_sight, .int v_told_sightTold, .ref q_told_flashes, .ref q_told_haters])), (q_ways, .inr (5, [.int v_ways_rocks, .int v_ways_many, .ref q_ways_keepers, .ref q_ways_changed, .ref q_ways_row])), (q_ways_keepers, .inl (g.2.1, 4320, .inl f_ways_keepers)), (q_told_flashes, .inl (g.2.1, 6, .inl f_told_flashes))] → va_S A s.heap H locs → lv_has ls 7 [(0, .ref q_this), (1, .int x1), (2, .int x2), (3, .int x3), (4, .int x4), (5, .int x5), (6, .int x6)] → k x2 x6 = some u0 → W p l e rm_X3_likes s m args below meth c H locs 0 0 (MQ below (gQi g [(q_this, .inr (3, [.ref q_told, .ref q_ways])), (q_told, .inr (4, [.int v_told_keepers, .int v_told_hates, .int v_told_sight, .int v_told_sightTold, .ref q_told_flashes, .ref q_told_haters])), (q_ways, .inr (5, [.int v_ways_rocks, .int v_ways_many, .ref q_ways_keepers, .ref q_ways_changed, .ref q_ways_row])), (q_ways_keepers, .inl (g.2.1, 4320, .inl f_ways_keepers)), (q_told_flashes, .inl (g.2.1, 6, .inl f_told_flashes))] u0 A) args s 0 0 A) (F0 m 79 ls [])) :
    W p l e rm_X3_likes s m args below meth c H locs 0 0 (MQ below (gQi g [(q_this, .inr (3, [.ref q_told, .ref q_ways])), (q_told, .inr (4, [.int v_told_keepers, .int v_told_hates, .int v_told_sight, .int v_told_sightTold, .ref q_told_flashes, .ref q_told_haters])), (q_ways, .inr (5, [.int v_ways_rocks, .int v_ways_many, .ref q_ways_keepers, .ref q_ways_changed, .ref q_ways_row])), (q_ways_keepers, .inl (g.2.1, 4320, .inl f_ways_keepers)), (q_told_flashes, .inl (g.2.1, 6, .inl f_told_flashes))] u0 A) args s 0 0 A) (F0 m 51 ls []) := by
  obtain ⟨hx, hb, hml, hown, hts, hr, hlk, hN, hK, hF, hA⟩ := id C0
  induction n generalizing x2 x6 H locs ls with
  | zero => cases hres
  | succ n ih =>
    unfold lp_X3_likes_L51 at hres
    refine lv_iload hx hb dX3_likes_51 (lv_at hl 6 rfl) ?_
    refine lv_iload hx hb dX3_likes_53 (lv_at hl 5 rfl) ?_
    refine lv_icmp_gt (tgt := 79) hx hb dX3_likes_55 (by decide) (fun c3 => ?_) (fun c3 => ?_)
    · have hres := it_t hres c3
      exact K _ _ _ _ _ hP hD hS hl hres
    · have hres := it_f hres c3
      refine lv_aload_n hx hb dX3_likes_58 rfl (lv_at hl 0 rfl) ?_
      refine lv_iload_n hx hb dX3_likes_59 rfl (lv_at hl 1 rfl) ?_
      refine lv_iload hx hb dX3_likes_60 (lv_at hl 6 rfl) ?_
      obtain ⟨u4, hu4, hres⟩ := bd hres
      refine k_i C0 (run_V (As := [.int x1, .int x6]) (rest := []) C0 (c_X3_flashAt l g (q_this := q_this) (q_told := q_told) (q_ways := q_ways) (q_told_flashes := q_told_flashes) (q_told_haters := q_told_haters) (q_ways_keepers := q_ways_keepers) (q_ways_changed := q_ways_changed) (q_ways_row := q_ways_row) (v_told_keepers := v_told_keepers) (v_told_hates := v_told_hates) (v_told_sight := v_told_sight) (v_told_sightTold := v_told_sightTold) (v_ways_rocks := v_ways_rocks) (v_ways_many := v_ways_many) (f_ways_keepers := f_ways_keepers) (f_told_flashes := f_told_flashes) (x1 := x1) (x2 := x6) (u0 := u4) hu4 _) 2 gX3_likes_X3_flashAt rfl rfl rfl hd_X3_flashAt ⟨Nat.le_of_ble_eq_true rfl, Nat.le_of_ble_eq_true rfl⟩ hP hD hS [0, 1, 2, 3, 4] rfl rfl 0 3 rfl rfl rfl hl.1 rfl (Nat.le_of_ble_eq_true rfl) ⟨Nat.zero_le _, Nat.zero_le _⟩ dX3_likes_62) hP hD hS [0, 1, 2, 3, 4] [] rfl rfl rfl (by decide) (fun H locs hP hD hS => ?_)
      have hP : va_P g.1 vwCl [(q_this, .inr (3, [.ref q_told, .ref q_ways])), (q_told, .inr (4, [.int v_told_keepers, .int v_told_hates, .int v_told_sight, .int v_told_sightTold, .ref q_told_flashes, .ref q_told_haters])), (q_ways, .inr (5, [.int v_ways_rocks, .int v_ways_many, .ref q_ways_keepers, .ref q_ways_changed, .ref q_ways_row])), (q_ways_keepers, .inl (g.2.1, 4320, .inl f_ways_keepers)), (q_told_flashes, .inl (g.2.1, 6, .inl f_told_flashes))] H := hP
      have hD : va_D A [(q_this, .inr (3, [.ref q_told, .ref q_ways])), (q_told, .inr (4, [.int v_told_keepers, .int v_told_hates, .int v_told_sight, .int v_told_sightTold, .ref q_told_flashes, .ref q_told_haters])), (q_ways, .inr (5, [.int v_ways_rocks, .int v_ways_many, .ref q_ways_keepers, .ref q_ways_changed, .ref q_ways_row])), (q_ways_keepers, .inl (g.2.1, 4320, .inl f_ways_keepers)), (q_told_flashes, .inl (g.2.1, 6, .inl f_told_flashes))] := hD
      refine lv_iload hx hb dX3_likes_65 (lv_at hl 4 rfl) ?_
      refine lv_icmp_ne (tgt := 73) hx hb dX3_likes_67 (by decide) (fun c5 => ?_) (fun c5 => ?_)
      · have hres := it_f hres c5
        refine lv_iinc (v := (x6 + 1)) (lv' := [(6, .int (x6 + 1)), (0, .ref q_this), (1, .int x1), (2, .int x2), (3, .int x3), (4, .int x4), (5, .int x5)]) hx hb dX3_likes_73 hl (k := 6) rfl rfl (by decide) rfl (fun ls hl => ?_)
        refine lv_goto (tgt := 51) hx hb dX3_likes_76 (by decide) ?_
        have hl : lv_has ls 7 [(0, .ref q_this), (1, .int x1), (2, .int x2), (3, .int x3), (4, .int x4), (5, .int x5), (6, .int (x6 + 1))] := lv_sub hl [1, 2, 3, 4, 5, 6, 0] rfl
        exact ih hP hS hl hres
      · have hres := it_t hres c5
        refine lv_iinc (v := (x2 + 1)) (lv' := [(2, .int (x2 + 1)), (0, .ref q_this), (1, .int x1), (3, .int x3), (4, .int x4), (5, .int x5), (6, .int x6)]) hx hb dX3_likes_70 hl (k := 2) rfl rfl (by decide) rfl (fun ls hl => ?_)
        refine lv_iinc (v := (x6 + 1)) (lv' := [(6, .int (x6 + 1)), (2, .int (x2 + 1)), (0, .ref q_this), (1, .int x1), (3, .int x3), (4, .int x4), (5, .int x5)]) hx hb dX3_likes_73 hl (k := 6) rfl rfl (by decide) rfl (fun ls hl => ?_)
        refine lv_goto (tgt := 51) hx hb dX3_likes_76 (by decide) ?_
        have hl : lv_has ls 7 [(0, .ref q_this), (1, .int x1), (2, .int (x2 + 1)), (3, .int x3), (4, .int x4), (5, .int x5), (6, .int (x6 + 1))] := lv_sub hl [2, 3, 1, 4, 5, 6, 0] rfl
        exact ih hP hS hl hres
set_option maxHeartbeats 4000000 in
set_option maxRecDepth 100000 in
theorem w_X3_likes_L4 {p : Program} {l : Launch} {e : Env} {s : State} {m : MethodId} {args : Array Value} {below : List Frame} {meth : Method} {c : Code} {g : gG} {A : Nat → Prop} {q_this q_told q_ways q_told_flashes q_told_haters q_ways_keepers q_ways_changed q_ways_row : Nat} {v_told_keepers : Int32} {v_told_hates : Int32} {v_told_sight : Int32} {v_told_sightTold : Int32} {v_ways_rocks : Int32} {v_ways_many : Int32} {f_ways_keepers : Nat → Int32} {f_told_flashes : Nat → Int32} {x1 : Int32} {u0 : Int32} {k : Int32 → Int32 → Option (Int32)} {n : Nat} {x2 : Int32} {x3 : Int32} {H : Heap} {locs : List Loc} {ls : Array Slot} (C0 : Cx p s m args meth c RX3 cX3_likes 7 wsX3_likes (some .int) g A)
    (hP : va_P g.1 vwCl [(q_this, .inr (3, [.ref q_told, .ref q_ways])), (q_told, .inr (4, [.int v_told_keepers, .int v_told_hates, .int v_told_sight, .int v_told_sightTold, .ref q_told_flashes, .ref q_told_haters])), (q_ways, .inr (5, [.int v_ways_rocks, .int v_ways_many, .ref q_ways_keepers, .ref q_ways_changed, .ref q_ways_row])), (q_ways_keepers, .inl (g.2.1, 4320, .inl f_ways_keepers)), (q_told_flashes, .inl (g.2.1, 6, .inl f_told_flashes))] H) (hD : va_D A [(q_this, .inr (3, [.ref q_told, .ref q_ways])), (q_told, .inr (4, [.int v_told_keepers, .int v_told_hates, .int v_told_sight, .int v_told_sightTold, .ref q_told_flashes, .ref q_told_haters])), (q_ways, .inr (5, [.int v_ways_rocks, .int v_ways_many, .ref q_ways_keepers, .ref q_ways_changed, .ref q_ways_row])), (q_ways_keepers, .inl (g.2.1, 4320, .inl f_ways_keepers)), (q_told_flashes, .inl (g.2.1, 6, .inl f_told_flashes))]) (hS : va_S A s.heap H locs) (hl : lv_has ls 7 [(0, .ref q_this), (1, .int x1), (2, .int x2), (3, .int x3)]) (hres : lp_X3_likes_L4 v_told_keepers v_told_sight f_ways_keepers f_told_flashes x1 k n x2 x3 = some u0)
    (K : ∀ (x2 : Int32) (x3 : Int32) (H : Heap) (locs : List Loc) (ls : Array Slot), va_P g.1 vwCl [(q_this, .inr (3, [.ref q_told, .ref q_ways])), (q_told, .inr (4, [.int v_told_keepers, .int v_told_hates, .int v_told_sight, .int v_told_sightTold, .ref q_told_flashes, .ref q_told_haters])), (q_ways, .inr (5, [.int v_ways_rocks, .int v_ways_many, .ref q_ways_keepers, .ref q_ways_changed, .ref q_ways_row])), (q_ways_keepers, .inl (g.2.1, 4320, .inl f_ways_keepers)), (q_told_flashes, .inl (g.2.1, 6, .inl f_told_flashes))] H → va_D A [(q_this, .inr (3, [.ref q_told, .ref q_ways])), (q_told, .inr (4, [.int v_told_keepers, .int v_told_hates, .int v_told_sight, .int v_told_sightTold, .ref q_told_flashes, .ref q_told_haters])), (q_ways, .inr (5, [.int v_ways_rocks, .int v_ways_many, .ref q_ways_keepers, .ref q_ways_changed, .ref q_ways_row])), (q_ways_keepers, .inl (g.2.1, 4320, .inl f_ways_keepers)), (q_told_flashes, .inl (g.2.1, 6, .inl f_told_flashes))] → va_S A s.heap H locs → lv_has ls 7 [(0, .ref q_this), (1, .int x1), (2, .int x2), (3, .int x3)] → k x2 x3 = some u0 → W p l e rm_X3_likes s m args below meth c H locs 0 0 (MQ below (gQi g [(q_this, .inr (3, [.ref q_told, .ref q_ways])), (q_told, .inr (4, [.int v_told_keepers, .int v_told_hates, .int v_told_sight, .int v_told_sightTold, .ref q_told_flashes, .ref q_told_haters])), (q_ways, .inr (5, [.int v_ways_rocks, .int v_ways_many, .ref q_ways_keepers, .ref q_ways_changed, .ref q_ways_row])), (q_ways_keepers, .inl (g.2.1, 4320, .inl f_ways_keepers)), (q_told_flashes, .inl (g.2.1, 6, .inl f_told_flashes))] u0 A) args s 0 0 A) (F0 m 85 ls [])) :
    W p l e rm_X3_likes s m args below meth c H locs 0 0 (MQ below (gQi g [(q_this, .inr (3, [.ref q_told, .ref q_ways])), (q_told, .inr (4, [.int v_told_keepers, .int v_told_hates, .int v_told_sight, .int v_told_sightTold, .ref q_told_flashes, .ref q_told_haters])), (q_ways, .inr (5, [.int v_ways_rocks, .int v_ways_many, .ref q_ways_keepers, .ref q_ways_changed, .ref q_ways_row])), (q_ways_keepers, .inl (g.2.1, 4320, .inl f_ways_keepers)), (q_told_flashes, .inl (g.2.1, 6, .inl f_told_flashes))] u0 A) args s 0 0 A) (F0 m 4 ls []) := by
  obtain ⟨hx, hb, hml, hown, hts, hr, hlk, hN, hK, hF, hA⟩ := id C0
  induction n generalizing x2 x3 H locs ls with
  | zero => cases hres
  | succ n ih =>
    unfold lp_X3_likes_L4 at hres
    refine lv_iload_n hx hb dX3_likes_4 rfl (lv_at hl 3 rfl) ?_
    refine lv_aload_n hx hb dX3_likes_5 rfl (lv_at hl 0 rfl) ?_
    refine va_get (D := g.1) (ci := 3) (v := .ref q_told) (C := RX3) (T := TX3) (N := 2) hx hb hts in_X3_likes_X3 hown hK hP 0 rfl rfl 0 (by decide) (hts (.fieldLink RX3 12 "LightKeepers$Shore" "told" "LLightKeepers$Told;") (List.mem_of_getElem? (i := 1) rfl)) (fun _ h9 => h9) rfl dX3_likes_6 ?_
    refine va_get (D := g.1) (ci := 4) (v := .int v_told_keepers) (C := RX4) (T := TX4) (N := 6) hx hb hts in_X3_likes_X4 hown hK hP 1 rfl rfl 0 (by decide) (hts (.fieldLink RX3 29 "LightKeepers$Told" "keepers" "I") (List.mem_of_getElem? (i := 2) rfl)) (fun _ h9 => h9) rfl dX3_likes_9 ?_
    refine lv_icmp_ge (tgt := 85) hx hb dX3_likes_12 (by decide) (fun c1 => ?_) (fun c1 => ?_)
    · have hres := it_t hres c1
      exact K _ _ _ _ _ hP hD hS hl hres
    · have hres := it_f hres c1
      refine lv_aload_n hx hb dX3_likes_15 rfl (lv_at hl 0 rfl) ?_
      refine lv_iload_n hx hb dX3_likes_16 rfl (lv_at hl 1 rfl) ?_
      refine lv_iload_n hx hb dX3_likes_17 rfl (lv_at hl 3 rfl) ?_
      obtain ⟨u2, hu2, hres⟩ := bd hres
      refine k_i C0 (run_V (As := [.int x1, .int x3]) (rest := []) C0 (c_X3_flashAt l g (q_this := q_this) (q_told := q_told) (q_ways := q_ways) (q_told_flashes := q_told_flashes) (q_told_haters := q_told_haters) (q_ways_keepers := q_ways_keepers) (q_ways_changed := q_ways_changed) (q_ways_row := q_ways_row) (v_told_keepers := v_told_keepers) (v_told_hates := v_told_hates) (v_told_sight := v_told_sight) (v_told_sightTold := v_told_sightTold) (v_ways_rocks := v_ways_rocks) (v_ways_many := v_ways_many) (f_ways_keepers := f_ways_keepers) (f_told_flashes := f_told_flashes) (x1 := x1) (x2 := x3) (u0 := u2) hu2 _) 2 gX3_likes_X3_flashAt rfl rfl rfl hd_X3_flashAt ⟨Nat.le_of_ble_eq_true rfl, Nat.le_of_ble_eq_true rfl⟩ hP hD hS [0, 1, 2, 3, 4] rfl rfl 0 3 rfl rfl rfl hl.1 rfl (Nat.le_of_ble_eq_true rfl) ⟨Nat.zero_le _, Nat.zero_le _⟩ dX3_likes_18) hP hD hS [0, 1, 2, 3, 4] [] rfl rfl rfl (by decide) (fun H locs hP hD hS => ?_)
      have hP : va_P g.1 vwCl [(q_this, .inr (3, [.ref q_told, .ref q_ways])), (q_told, .inr (4, [.int v_told_keepers, .int v_told_hates, .int v_told_sight, .int v_told_sightTold, .ref q_told_flashes, .ref q_told_haters])), (q_ways, .inr (5, [.int v_ways_rocks, .int v_ways_many, .ref q_ways_keepers, .ref q_ways_changed, .ref q_ways_row])), (q_ways_keepers, .inl (g.2.1, 4320, .inl f_ways_keepers)), (q_told_flashes, .inl (g.2.1, 6, .inl f_told_flashes))] H := hP
      have hD : va_D A [(q_this, .inr (3, [.ref q_told, .ref q_ways])), (q_told, .inr (4, [.int v_told_keepers, .int v_told_hates, .int v_told_sight, .int v_told_sightTold, .ref q_told_flashes, .ref q_told_haters])), (q_ways, .inr (5, [.int v_ways_rocks, .int v_ways_many, .ref q_ways_keepers, .ref q_ways_changed, .ref q_ways_row])), (q_ways_keepers, .inl (g.2.1, 4320, .inl f_ways_keepers)), (q_told_flashes, .inl (g.2.1, 6, .inl f_told_flashes))] := hD
      refine lv_istore (lv' := [(4, .int u2), (0, .ref q_this), (1, .int x1), (2, .int x2), (3, .int x3)]) hx hb dX3_likes_21 hl (by decide) rfl (fun ls hl => ?_)
      refine lv_iload_n hx hb dX3_likes_23 rfl (lv_at hl 4 rfl) ?_
      refine lv_aload_n hx hb dX3_likes_24 rfl (lv_at hl 1 rfl) ?_
      refine va_get (D := g.1) (ci := 3) (v := .ref q_told) (C := RX3) (T := TX3) (N := 2) hx hb hts in_X3_likes_X3 hown hK hP 0 rfl rfl 0 (by decide) (hts (.fieldLink RX3 12 "LightKeepers$Shore" "told" "LLightKeepers$Told;") (List.mem_of_getElem? (i := 1) rfl)) (fun _ h9 => h9) rfl dX3_likes_25 ?_
      refine va_get (D := g.1) (ci := 4) (v := .int v_told_sight) (C := RX4) (T := TX4) (N := 6) hx hb hts in_X3_likes_X4 hown hK hP 1 rfl rfl 2 (by decide) (hts (.fieldLink RX3 53 "LightKeepers$Told" "sight" "I") (List.mem_of_getElem? (i := 3) rfl)) (fun _ h9 => h9) rfl dX3_likes_28 ?_
      refine lv_iadd hx hb dX3_likes_31 ?_
      refine lv_aload_n hx hb dX3_likes_32 rfl (lv_at hl 1 rfl) ?_
      refine va_get (D := g.1) (ci := 3) (v := .ref q_told) (C := RX3) (T := TX3) (N := 2) hx hb hts in_X3_likes_X3 hown hK hP 0 rfl rfl 0 (by decide) (hts (.fieldLink RX3 12 "LightKeepers$Shore" "told" "LLightKeepers$Told;") (List.mem_of_getElem? (i := 1) rfl)) (fun _ h9 => h9) rfl dX3_likes_33 ?_
      refine va_get (D := g.1) (ci := 4) (v := .int v_told_keepers) (C := RX4) (T := TX4) (N := 6) hx hb hts in_X3_likes_X4 hown hK hP 1 rfl rfl 0 (by decide) (hts (.fieldLink RX3 29 "LightKeepers$Told" "keepers" "I") (List.mem_of_getElem? (i := 2) rfl)) (fun _ h9 => h9) rfl dX3_likes_36 ?_
      refine lv_iconst (v := 1) hx hb dX3_likes_39 (by decide) ?_
      refine lv_isub hx hb dX3_likes_40 ?_
      refine va_mmin hx hb (hml.trans hl.1.symm) hown (hts (.methodLink RX3 56 Lib.Math.min.name) (List.mem_of_getElem? (i := 4) rfl)) (hts (.static Lib.Math.min.name) (List.mem_of_getElem? (i := 5) rfl)) (hts (.initialized "java/lang/Math") (List.mem_of_getElem? (i := 6) rfl)) (hts (.code Lib.Math.min.name Lib.Math.min.code 2 (some .int)) (List.mem_of_getElem? (i := 7) rfl)) (Nat.le_of_ble_eq_true rfl) (Nat.le_of_ble_eq_true rfl) (Nat.zero_le _) (Nat.zero_le _) dX3_likes_41 ?_
      refine lv_istore (lv' := [(5, .int (if (v_told_keepers - 1) < (x3 + v_told_sight) then (v_told_keepers - 1) else (x3 + v_told_sight))), (4, .int u2), (0, .ref q_this), (1, .int x1), (2, .int x2), (3, .int x3)]) hx hb dX3_likes_44 hl (by decide) rfl (fun ls hl => ?_)
      refine lv_iload_n hx hb dX3_likes_46 rfl (lv_at hl 5 rfl) ?_
      refine lv_iconst (v := 1) hx hb dX3_likes_47 (by decide) ?_
      refine lv_iadd hx hb dX3_likes_48 ?_
      refine lv_istore (lv' := [(6, .int (x3 + 1)), (5, .int (if (v_told_keepers - 1) < (x3 + v_told_sight) then (v_told_keepers - 1) else (x3 + v_told_sight))), (4, .int u2), (0, .ref q_this), (1, .int x1), (2, .int x2), (3, .int x3)]) hx hb dX3_likes_49 hl (by decide) rfl (fun ls hl => ?_)
      have hl : lv_has ls 7 [(0, .ref q_this), (1, .int x1), (2, .int x2), (3, .int x3), (4, .int u2), (5, .int (if (v_told_keepers - 1) < (x3 + v_told_sight) then (v_told_keepers - 1) else (x3 + v_told_sight))), (6, .int (x3 + 1))] := lv_sub hl [3, 4, 5, 6, 2, 1, 0] rfl
      refine w_X3_likes_L51 C0 hP hD hS hl hres (fun y6 y7 H locs ls hP hD hS hl hres => ?_)
      refine lv_iinc (v := (x3 + 1)) (lv' := [(3, .int (x3 + 1)), (0, .ref q_this), (1, .int x1), (2, .int y6), (4, .int u2), (5, .int (if (v_told_keepers - 1) < (x3 + v_told_sight) then (v_told_keepers - 1) else (x3 + v_told_sight))), (6, .int y7)]) hx hb dX3_likes_79 hl (k := 3) rfl rfl (by decide) rfl (fun ls hl => ?_)
      refine lv_goto (tgt := 4) hx hb dX3_likes_82 (by decide) ?_
      have hl : lv_has ls 7 [(0, .ref q_this), (1, .int x1), (2, .int y6), (3, .int (x3 + 1))] := lv_sub hl [1, 2, 3, 0] rfl
      exact ih hP hS hl hres
set_option maxHeartbeats 4000000 in
set_option maxRecDepth 100000 in
theorem c_X3_likes (l : Launch) (g : gG) {q_this q_told q_ways q_told_flashes q_told_haters q_ways_keepers q_ways_changed q_ways_row : Nat} {v_told_keepers : Int32} {v_told_hates : Int32} {v_told_sight : Int32} {v_told_sightTold : Int32} {v_ways_rocks : Int32} {v_ways_many : Int32} {f_ways_keepers : Nat → Int32} {f_told_flashes : Nat → Int32} {x1 : Int32} {u0 : Int32} (hres : f_X3_likes v_told_keepers v_told_sight f_ways_keepers f_told_flashes x1 = some u0) : Ci l g yX3_likes wsX3_likes rm_X3_likes [.ref q_this, .int x1] [(q_this, .inr (3, [.ref q_told, .ref q_ways])), (q_told, .inr (4, [.int v_told_keepers, .int v_told_hates, .int v_told_sight, .int v_told_sightTold, .ref q_told_flashes, .ref q_told_haters])), (q_ways, .inr (5, [.int v_ways_rocks, .int v_ways_many, .ref q_ways_keepers, .ref q_ways_changed, .ref q_ways_row])), (q_ways_keepers, .inl (g.2.1, 4320, .inl f_ways_keepers)), (q_told_flashes, .inl (g.2.1, 6, .inl f_told_flashes))] [(q_this, .inr (3, [.ref q_told, .ref q_ways])), (q_told, .inr (4, [.int v_told_keepers, .int v_told_hates, .int v_told_sight, .int v_told_sightTold, .ref q_told_flashes, .ref q_told_haters])), (q_ways, .inr (5, [.int v_ways_rocks, .int v_ways_many, .ref q_ways_keepers, .ref q_ways_changed, .ref q_ways_row])), (q_ways_keepers, .inl (g.2.1, 4320, .inl f_ways_keepers)), (q_told_flashes, .inl (g.2.1, 6, .inl f_told_flashes))] u0 := by
  intro sz
  refine gBody (Qf := fun A => gQi g [(q_this, .inr (3, [.ref q_told, .ref q_ways])), (q_told, .inr (4, [.int v_told_keepers, .int v_told_hates, .int v_told_sight, .int v_told_sightTold, .ref q_told_flashes, .ref q_told_haters])), (q_ways, .inr (5, [.int v_ways_rocks, .int v_ways_many, .ref q_ways_keepers, .ref q_ways_changed, .ref q_ways_row])), (q_ways_keepers, .inl (g.2.1, 4320, .inl f_ways_keepers)), (q_told_flashes, .inl (g.2.1, 6, .inl f_told_flashes))] u0 A) (cc := cX3_likes) (maxL := 7) (ret := (some .int)) (own := RX3) (by decide +kernel) rfl rfl (Nat.le_of_ble_eq_true rfl) ?_
  intro p e s m args below meth c A C0 H hS hD hP ls hl
  obtain ⟨hx, hb, hml, hown, hts, hr, hlk, hN, hK, hF, hA⟩ := id C0
  have hl : lv_has ls 7 [(0, .ref q_this), (1, .int x1)] := hl
  unfold f_X3_likes at hres
  refine lv_iconst (v := 0) hx hb dX3_likes_0 (by decide) ?_
  refine lv_istore_n (lv' := [(2, .int 0), (0, .ref q_this), (1, .int x1)]) hx hb dX3_likes_1 rfl hl (by decide) rfl (fun ls hl => ?_)
  refine lv_iconst (v := 0) hx hb dX3_likes_2 (by decide) ?_
  refine lv_istore_n (lv' := [(3, .int 0), (2, .int 0), (0, .ref q_this), (1, .int x1)]) hx hb dX3_likes_3 rfl hl (by decide) rfl (fun ls hl => ?_)
  have hl : lv_has ls 7 [(0, .ref q_this), (1, .int x1), (2, .int 0), (3, .int 0)] := lv_sub hl [2, 3, 1, 0] rfl
  refine w_X3_likes_L4 C0 hP hD hS hl hres (fun y8 y9 H locs ls hP hD hS hl hres => ?_)
  refine lv_iload_n hx hb dX3_likes_85 rfl (lv_at hl 2 rfl) ?_
  cases hres
  exact ret_i C0 hP hD hS dX3_likes_86
set_option maxHeartbeats 4000000 in
set_option maxRecDepth 100000 in
theorem c_X2_reach (l : Launch) (g : gG) {q_this q_shore q_moons q_firsts q_queue q_shore_told q_shore_ways q_shore_told_flashes q_shore_told_haters q_shore_ways_keepers q_shore_ways_changed q_shore_ways_row : Nat} {v_safe : Int32} {v_queued : Int32} {v_from : Int32} {f_moons : Nat → Int32} {v_shore_told_keepers : Int32} {v_shore_told_hates : Int32} {v_shore_told_sight : Int32} {v_shore_told_sightTold : Int32} {v_shore_ways_rocks : Int32} {v_shore_ways_many : Int32} {f_shore_ways_keepers : Nat → Int32} {f_shore_told_flashes : Nat → Int32} {f_firsts : Nat → Int32} {f_queue : Nat → Int32} {x1 : Int32} {x2 : Int32} {x3 : Int32} {u0 : Int32 × (Nat → Int32) × (Nat → Int32) × (Nat → Int32)} (hres : f_X2_reach v_safe v_queued f_moons v_shore_told_keepers v_shore_told_sight f_shore_ways_keepers f_shore_told_flashes f_firsts f_queue x1 x2 x3 = some u0) : Cv l g yX2_reach wsX2_reach rm_X2_reach [.ref q_this, .int x1, .int x2, .int x3] [(q_this, .inr (2, [.ref q_shore, .int v_safe, .ref q_moons, .ref q_firsts, .ref q_queue, .int v_queued, .int v_from])), (q_moons, .inl (g.2.1, 720, .inl f_moons)), (q_shore, .inr (3, [.ref q_shore_told, .ref q_shore_ways])), (q_shore_told, .inr (4, [.int v_shore_told_keepers, .int v_shore_told_hates, .int v_shore_told_sight, .int v_shore_told_sightTold, .ref q_shore_told_flashes, .ref q_shore_told_haters])), (q_shore_ways, .inr (5, [.int v_shore_ways_rocks, .int v_shore_ways_many, .ref q_shore_ways_keepers, .ref q_shore_ways_changed, .ref q_shore_ways_row])), (q_shore_ways_keepers, .inl (g.2.1, 4320, .inl f_shore_ways_keepers)), (q_shore_told_flashes, .inl (g.2.1, 6, .inl f_shore_told_flashes)), (q_firsts, .inl (g.2.1, 720, .inl f_firsts)), (q_queue, .inl (g.2.1, 720, .inl f_queue))] [(q_this, .inr (2, [.ref q_shore, .int v_safe, .ref q_moons, .ref q_firsts, .ref q_queue, .int u0.1, .int v_from])), (q_moons, .inl (g.2.1, 720, .inl u0.2.1)), (q_shore, .inr (3, [.ref q_shore_told, .ref q_shore_ways])), (q_shore_told, .inr (4, [.int v_shore_told_keepers, .int v_shore_told_hates, .int v_shore_told_sight, .int v_shore_told_sightTold, .ref q_shore_told_flashes, .ref q_shore_told_haters])), (q_shore_ways, .inr (5, [.int v_shore_ways_rocks, .int v_shore_ways_many, .ref q_shore_ways_keepers, .ref q_shore_ways_changed, .ref q_shore_ways_row])), (q_shore_ways_keepers, .inl (g.2.1, 4320, .inl f_shore_ways_keepers)), (q_shore_told_flashes, .inl (g.2.1, 6, .inl f_shore_told_flashes)), (q_firsts, .inl (g.2.1, 720, .inl u0.2.2.1)), (q_queue, .inl (g.2.1, 720, .inl u0.2.2.2))] := by
  intro sz
  refine gBody (Qf := fun A => gQv g [(q_this, .inr (2, [.ref q_shore, .int v_safe, .ref q_moons, .ref q_firsts, .ref q_queue, .int u0.1, .int v_from])), (q_moons, .inl (g.2.1, 720, .inl u0.2.1)), (q_shore, .inr (3, [.ref q_shore_told, .ref q_shore_ways])), (q_shore_told, .inr (4, [.int v_shore_told_keepers, .int v_shore_told_hates, .int v_shore_told_sight, .int v_shore_told_sightTold, .ref q_shore_told_flashes, .ref q_shore_told_haters])), (q_shore_ways, .inr (5, [.int v_shore_ways_rocks, .int v_shore_ways_many, .ref q_shore_ways_keepers, .ref q_shore_ways_changed, .ref q_shore_ways_row])), (q_shore_ways_keepers, .inl (g.2.1, 4320, .inl f_shore_ways_keepers)), (q_shore_told_flashes, .inl (g.2.1, 6, .inl f_shore_told_flashes)), (q_firsts, .inl (g.2.1, 720, .inl u0.2.2.1)), (q_queue, .inl (g.2.1, 720, .inl u0.2.2.2))] A) (cc := cX2_reach) (maxL := 4) (ret := none) (own := RX2) (by decide +kernel) rfl rfl (Nat.le_of_ble_eq_true rfl) ?_
  intro p e s m args below meth c A C0 H hS hD hP ls hl
  obtain ⟨hx, hb, hml, hown, hts, hr, hlk, hN, hK, hF, hA⟩ := id C0
  have hl : lv_has ls 4 [(0, .ref q_this), (1, .int x1), (2, .int x2), (3, .int x3)] := hl
  unfold f_X2_reach at hres
  refine lv_aload_n hx hb dX2_reach_0 rfl (lv_at hl 0 rfl) ?_
  refine va_get (D := g.1) (ci := 2) (v := .ref q_moons) (C := RX2) (T := TX2) (N := 7) hx hb hts in_X2_reach_X2 hown hK hP 0 rfl rfl 2 (by decide) (hts (.fieldLink RX2 9 "LightKeepers$Search" "moons" "[I") (List.mem_of_getElem? (i := 1) rfl)) (fun _ h9 => h9) rfl dX2_reach_1 ?_
  refine lv_iload_n hx hb dX2_reach_4 rfl (lv_at hl 1 rfl) ?_
  obtain ⟨u1, hu1, hres⟩ := bd hres
  refine k_i C0 (run_SN (As := [.ref q_moons, .int x1]) (rest := []) C0 (c_X6_item l g (q_a0 := q_moons) (n_a0 := 720) (f_a0 := f_moons) (x1 := x1) (u0 := u1) hu1 _) 2 gX2_reach_X6_item_n46 rfl rfl rfl (List.mem_of_getElem? (i := 8) rfl) (List.mem_of_getElem? (i := 4) rfl) (List.mem_of_getElem? (i := 5) rfl) hd_X6_item ⟨Nat.le_of_ble_eq_true rfl, Nat.le_of_ble_eq_true rfl⟩ hP hD hS [1] rfl rfl rfl hl.1 rfl (Nat.le_of_ble_eq_true rfl) ⟨Nat.zero_le _, Nat.zero_le _⟩ dX2_reach_5) hP hD hS [1] [0, 2, 3, 4, 5, 6, 7, 8] rfl rfl rfl (by decide) (fun H locs hP hD hS => ?_)
  have hP : va_P g.1 vwCl [(q_this, .inr (2, [.ref q_shore, .int v_safe, .ref q_moons, .ref q_firsts, .ref q_queue, .int v_queued, .int v_from])), (q_shore, .inr (3, [.ref q_shore_told, .ref q_shore_ways])), (q_shore_told, .inr (4, [.int v_shore_told_keepers, .int v_shore_told_hates, .int v_shore_told_sight, .int v_shore_told_sightTold, .ref q_shore_told_flashes, .ref q_shore_told_haters])), (q_shore_ways, .inr (5, [.int v_shore_ways_rocks, .int v_shore_ways_many, .ref q_shore_ways_keepers, .ref q_shore_ways_changed, .ref q_shore_ways_row])), (q_shore_ways_keepers, .inl (g.2.1, 4320, .inl f_shore_ways_keepers)), (q_shore_told_flashes, .inl (g.2.1, 6, .inl f_shore_told_flashes)), (q_firsts, .inl (g.2.1, 720, .inl f_firsts)), (q_queue, .inl (g.2.1, 720, .inl f_queue)), (q_moons, .inl (g.2.1, 720, .inl f_moons))] H := hP
  have hD : va_D A [(q_this, .inr (2, [.ref q_shore, .int v_safe, .ref q_moons, .ref q_firsts, .ref q_queue, .int v_queued, .int v_from])), (q_shore, .inr (3, [.ref q_shore_told, .ref q_shore_ways])), (q_shore_told, .inr (4, [.int v_shore_told_keepers, .int v_shore_told_hates, .int v_shore_told_sight, .int v_shore_told_sightTold, .ref q_shore_told_flashes, .ref q_shore_told_haters])), (q_shore_ways, .inr (5, [.int v_shore_ways_rocks, .int v_shore_ways_many, .ref q_shore_ways_keepers, .ref q_shore_ways_changed, .ref q_shore_ways_row])), (q_shore_ways_keepers, .inl (g.2.1, 4320, .inl f_shore_ways_keepers)), (q_shore_told_flashes, .inl (g.2.1, 6, .inl f_shore_told_flashes)), (q_firsts, .inl (g.2.1, 720, .inl f_firsts)), (q_queue, .inl (g.2.1, 720, .inl f_queue)), (q_moons, .inl (g.2.1, 720, .inl f_moons))] := hD
  refine lv_bipush (v := (-9)) hx hb dX2_reach_8 (by decide) ?_
  refine lv_icmp_eq (tgt := 14) hx hb dX2_reach_10 (by decide) (fun c2 => ?_) (fun c2 => ?_)
  · have hres := it_t hres c2
    refine lv_aload_n hx hb dX2_reach_14 rfl (lv_at hl 0 rfl) ?_
    refine va_get (D := g.1) (ci := 2) (v := .int v_safe) (C := RX2) (T := TX2) (N := 7) hx hb hts in_X2_reach_X2 hown hK hP 0 rfl rfl 1 (by decide) (hts (.fieldLink RX2 29 "LightKeepers$Search" "safe" "Z") (List.mem_of_getElem? (i := 2) rfl)) (fun _ h9 => h9) rfl dX2_reach_15 ?_
    refine lv_if_eq (tgt := 45) hx hb dX2_reach_18 (by decide) (fun c3 => ?_) (fun c3 => ?_)
    · have hres := it_t hres c3
      refine lv_aload_n hx hb dX2_reach_45 rfl (lv_at hl 0 rfl) ?_
      refine lv_iload_n hx hb dX2_reach_46 rfl (lv_at hl 1 rfl) ?_
      refine lv_iload_n hx hb dX2_reach_47 rfl (lv_at hl 2 rfl) ?_
      refine lv_iload_n hx hb dX2_reach_48 rfl (lv_at hl 3 rfl) ?_
      obtain ⟨u4, hu4, hres⟩ := bd hres
      refine k_v C0 (run_V (As := [.int x1, .int x2, .int x3]) (rest := []) C0 (c_X2_enter l g (q_this := q_this) (q_shore := q_shore) (q_moons := q_moons) (q_firsts := q_firsts) (q_queue := q_queue) (v_safe := v_safe) (v_queued := v_queued) (v_from := v_from) (f_moons := f_moons) (f_firsts := f_firsts) (f_queue := f_queue) (x1 := x1) (x2 := x2) (x3 := x3) (u0 := u4) hu4 _) 3 gX2_reach_X2_enter rfl rfl rfl hd_X2_enter ⟨Nat.le_of_ble_eq_true rfl, Nat.le_of_ble_eq_true rfl⟩ hP hD hS [0, 8, 6, 7] rfl rfl 0 2 rfl rfl rfl hl.1 rfl (Nat.le_of_ble_eq_true rfl) ⟨Nat.zero_le _, Nat.zero_le _⟩ dX2_reach_49) hP hD hS [0, 8, 6, 7] [1, 2, 3, 4, 5] rfl rfl rfl (by decide) (fun H locs hP hD hS => ?_)
      have hP : va_P g.1 vwCl [(q_shore, .inr (3, [.ref q_shore_told, .ref q_shore_ways])), (q_shore_told, .inr (4, [.int v_shore_told_keepers, .int v_shore_told_hates, .int v_shore_told_sight, .int v_shore_told_sightTold, .ref q_shore_told_flashes, .ref q_shore_told_haters])), (q_shore_ways, .inr (5, [.int v_shore_ways_rocks, .int v_shore_ways_many, .ref q_shore_ways_keepers, .ref q_shore_ways_changed, .ref q_shore_ways_row])), (q_shore_ways_keepers, .inl (g.2.1, 4320, .inl f_shore_ways_keepers)), (q_shore_told_flashes, .inl (g.2.1, 6, .inl f_shore_told_flashes)), (q_this, .inr (2, [.ref q_shore, .int v_safe, .ref q_moons, .ref q_firsts, .ref q_queue, .int u4.1, .int v_from])), (q_moons, .inl (g.2.1, 720, .inl u4.2.1)), (q_firsts, .inl (g.2.1, 720, .inl u4.2.2.1)), (q_queue, .inl (g.2.1, 720, .inl u4.2.2.2))] H := hP
      have hD : va_D A [(q_shore, .inr (3, [.ref q_shore_told, .ref q_shore_ways])), (q_shore_told, .inr (4, [.int v_shore_told_keepers, .int v_shore_told_hates, .int v_shore_told_sight, .int v_shore_told_sightTold, .ref q_shore_told_flashes, .ref q_shore_told_haters])), (q_shore_ways, .inr (5, [.int v_shore_ways_rocks, .int v_shore_ways_many, .ref q_shore_ways_keepers, .ref q_shore_ways_changed, .ref q_shore_ways_row])), (q_shore_ways_keepers, .inl (g.2.1, 4320, .inl f_shore_ways_keepers)), (q_shore_told_flashes, .inl (g.2.1, 6, .inl f_shore_told_flashes)), (q_this, .inr (2, [.ref q_shore, .int v_safe, .ref q_moons, .ref q_firsts, .ref q_queue, .int u4.1, .int v_from])), (q_moons, .inl (g.2.1, 720, .inl u4.2.1)), (q_firsts, .inl (g.2.1, 720, .inl u4.2.2.1)), (q_queue, .inl (g.2.1, 720, .inl u4.2.2.2))] := hD
      have hP : va_P g.1 vwCl [(q_this, .inr (2, [.ref q_shore, .int v_safe, .ref q_moons, .ref q_firsts, .ref q_queue, .int u4.1, .int v_from])), (q_moons, .inl (g.2.1, 720, .inl u4.2.1)), (q_shore, .inr (3, [.ref q_shore_told, .ref q_shore_ways])), (q_shore_told, .inr (4, [.int v_shore_told_keepers, .int v_shore_told_hates, .int v_shore_told_sight, .int v_shore_told_sightTold, .ref q_shore_told_flashes, .ref q_shore_told_haters])), (q_shore_ways, .inr (5, [.int v_shore_ways_rocks, .int v_shore_ways_many, .ref q_shore_ways_keepers, .ref q_shore_ways_changed, .ref q_shore_ways_row])), (q_shore_ways_keepers, .inl (g.2.1, 4320, .inl f_shore_ways_keepers)), (q_shore_told_flashes, .inl (g.2.1, 6, .inl f_shore_told_flashes)), (q_firsts, .inl (g.2.1, 720, .inl u4.2.2.1)), (q_queue, .inl (g.2.1, 720, .inl u4.2.2.2))] H := hP.sub [5, 6, 0, 1, 2, 3, 4, 7, 8] rfl
      have hD : va_D A [(q_this, .inr (2, [.ref q_shore, .int v_safe, .ref q_moons, .ref q_firsts, .ref q_queue, .int u4.1, .int v_from])), (q_moons, .inl (g.2.1, 720, .inl u4.2.1)), (q_shore, .inr (3, [.ref q_shore_told, .ref q_shore_ways])), (q_shore_told, .inr (4, [.int v_shore_told_keepers, .int v_shore_told_hates, .int v_shore_told_sight, .int v_shore_told_sightTold, .ref q_shore_told_flashes, .ref q_shore_told_haters])), (q_shore_ways, .inr (5, [.int v_shore_ways_rocks, .int v_shore_ways_many, .ref q_shore_ways_keepers, .ref q_shore_ways_changed, .ref q_shore_ways_row])), (q_shore_ways_keepers, .inl (g.2.1, 4320, .inl f_shore_ways_keepers)), (q_shore_told_flashes, .inl (g.2.1, 6, .inl f_shore_told_flashes)), (q_firsts, .inl (g.2.1, 720, .inl u4.2.2.1)), (q_queue, .inl (g.2.1, 720, .inl u4.2.2.2))] := hD.sub [5, 6, 0, 1, 2, 3, 4, 7, 8] (by decide) rfl
      cases hres
      exact ret_v C0 hP hD hS dX2_reach_52
    · have hres := it_f hres c3
      refine lv_aload_n hx hb dX2_reach_21 rfl (lv_at hl 0 rfl) ?_
      refine va_get (D := g.1) (ci := 2) (v := .ref q_shore) (C := RX2) (T := TX2) (N := 7) hx hb hts in_X2_reach_X2 hown hK hP 0 rfl rfl 0 (by decide) (hts (.fieldLink RX2 25 "LightKeepers$Search" "shore" "LLightKeepers$Shore;") (List.mem_of_getElem? (i := 3) rfl)) (fun _ h9 => h9) rfl dX2_reach_22 ?_
      refine lv_iload_n hx hb dX2_reach_25 rfl (lv_at hl 1 rfl) ?_
      obtain ⟨u5, hu5, hres⟩ := bd hres
      refine k_i C0 (run_V (As := [.int x1]) (rest := []) C0 (c_X3_likes l g (q_this := q_shore) (q_told := q_shore_told) (q_ways := q_shore_ways) (q_told_flashes := q_shore_told_flashes) (q_told_haters := q_shore_told_haters) (q_ways_keepers := q_shore_ways_keepers) (q_ways_changed := q_shore_ways_changed) (q_ways_row := q_shore_ways_row) (v_told_keepers := v_shore_told_keepers) (v_told_hates := v_shore_told_hates) (v_told_sight := v_shore_told_sight) (v_told_sightTold := v_shore_told_sightTold) (v_ways_rocks := v_shore_ways_rocks) (v_ways_many := v_shore_ways_many) (f_ways_keepers := f_shore_ways_keepers) (f_told_flashes := f_shore_told_flashes) (x1 := x1) (u0 := u5) hu5 _) 1 gX2_reach_X3_likes rfl rfl rfl hd_X3_likes ⟨Nat.le_of_ble_eq_true rfl, Nat.le_of_ble_eq_true rfl⟩ hP hD hS [1, 2, 3, 4, 5] rfl rfl 1 3 rfl rfl rfl hl.1 rfl (Nat.le_of_ble_eq_true rfl) ⟨Nat.zero_le _, Nat.zero_le _⟩ dX2_reach_26) hP hD hS [1, 2, 3, 4, 5] [0, 6, 7, 8] rfl rfl rfl (by decide) (fun H locs hP hD hS => ?_)
      have hP : va_P g.1 vwCl [(q_this, .inr (2, [.ref q_shore, .int v_safe, .ref q_moons, .ref q_firsts, .ref q_queue, .int v_queued, .int v_from])), (q_firsts, .inl (g.2.1, 720, .inl f_firsts)), (q_queue, .inl (g.2.1, 720, .inl f_queue)), (q_moons, .inl (g.2.1, 720, .inl f_moons)), (q_shore, .inr (3, [.ref q_shore_told, .ref q_shore_ways])), (q_shore_told, .inr (4, [.int v_shore_told_keepers, .int v_shore_told_hates, .int v_shore_told_sight, .int v_shore_told_sightTold, .ref q_shore_told_flashes, .ref q_shore_told_haters])), (q_shore_ways, .inr (5, [.int v_shore_ways_rocks, .int v_shore_ways_many, .ref q_shore_ways_keepers, .ref q_shore_ways_changed, .ref q_shore_ways_row])), (q_shore_ways_keepers, .inl (g.2.1, 4320, .inl f_shore_ways_keepers)), (q_shore_told_flashes, .inl (g.2.1, 6, .inl f_shore_told_flashes))] H := hP
      have hD : va_D A [(q_this, .inr (2, [.ref q_shore, .int v_safe, .ref q_moons, .ref q_firsts, .ref q_queue, .int v_queued, .int v_from])), (q_firsts, .inl (g.2.1, 720, .inl f_firsts)), (q_queue, .inl (g.2.1, 720, .inl f_queue)), (q_moons, .inl (g.2.1, 720, .inl f_moons)), (q_shore, .inr (3, [.ref q_shore_told, .ref q_shore_ways])), (q_shore_told, .inr (4, [.int v_shore_told_keepers, .int v_shore_told_hates, .int v_shore_told_sight, .int v_shore_told_sightTold, .ref q_shore_told_flashes, .ref q_shore_told_haters])), (q_shore_ways, .inr (5, [.int v_shore_ways_rocks, .int v_shore_ways_many, .ref q_shore_ways_keepers, .ref q_shore_ways_changed, .ref q_shore_ways_row])), (q_shore_ways_keepers, .inl (g.2.1, 4320, .inl f_shore_ways_keepers)), (q_shore_told_flashes, .inl (g.2.1, 6, .inl f_shore_told_flashes))] := hD
      refine lv_if_le (tgt := 45) hx hb dX2_reach_29 (by decide) (fun c6 => ?_) (fun c6 => ?_)
      · have hres := it_t hres c6
        refine lv_aload_n hx hb dX2_reach_45 rfl (lv_at hl 0 rfl) ?_
        refine lv_iload_n hx hb dX2_reach_46 rfl (lv_at hl 1 rfl) ?_
        refine lv_iload_n hx hb dX2_reach_47 rfl (lv_at hl 2 rfl) ?_
        refine lv_iload_n hx hb dX2_reach_48 rfl (lv_at hl 3 rfl) ?_
        obtain ⟨u7, hu7, hres⟩ := bd hres
        refine k_v C0 (run_V (As := [.int x1, .int x2, .int x3]) (rest := []) C0 (c_X2_enter l g (q_this := q_this) (q_shore := q_shore) (q_moons := q_moons) (q_firsts := q_firsts) (q_queue := q_queue) (v_safe := v_safe) (v_queued := v_queued) (v_from := v_from) (f_moons := f_moons) (f_firsts := f_firsts) (f_queue := f_queue) (x1 := x1) (x2 := x2) (x3 := x3) (u0 := u7) hu7 _) 3 gX2_reach_X2_enter rfl rfl rfl hd_X2_enter ⟨Nat.le_of_ble_eq_true rfl, Nat.le_of_ble_eq_true rfl⟩ hP hD hS [0, 3, 1, 2] rfl rfl 0 2 rfl rfl rfl hl.1 rfl (Nat.le_of_ble_eq_true rfl) ⟨Nat.zero_le _, Nat.zero_le _⟩ dX2_reach_49) hP hD hS [0, 3, 1, 2] [4, 5, 6, 7, 8] rfl rfl rfl (by decide) (fun H locs hP hD hS => ?_)
        have hP : va_P g.1 vwCl [(q_shore, .inr (3, [.ref q_shore_told, .ref q_shore_ways])), (q_shore_told, .inr (4, [.int v_shore_told_keepers, .int v_shore_told_hates, .int v_shore_told_sight, .int v_shore_told_sightTold, .ref q_shore_told_flashes, .ref q_shore_told_haters])), (q_shore_ways, .inr (5, [.int v_shore_ways_rocks, .int v_shore_ways_many, .ref q_shore_ways_keepers, .ref q_shore_ways_changed, .ref q_shore_ways_row])), (q_shore_ways_keepers, .inl (g.2.1, 4320, .inl f_shore_ways_keepers)), (q_shore_told_flashes, .inl (g.2.1, 6, .inl f_shore_told_flashes)), (q_this, .inr (2, [.ref q_shore, .int v_safe, .ref q_moons, .ref q_firsts, .ref q_queue, .int u7.1, .int v_from])), (q_moons, .inl (g.2.1, 720, .inl u7.2.1)), (q_firsts, .inl (g.2.1, 720, .inl u7.2.2.1)), (q_queue, .inl (g.2.1, 720, .inl u7.2.2.2))] H := hP
        have hD : va_D A [(q_shore, .inr (3, [.ref q_shore_told, .ref q_shore_ways])), (q_shore_told, .inr (4, [.int v_shore_told_keepers, .int v_shore_told_hates, .int v_shore_told_sight, .int v_shore_told_sightTold, .ref q_shore_told_flashes, .ref q_shore_told_haters])), (q_shore_ways, .inr (5, [.int v_shore_ways_rocks, .int v_shore_ways_many, .ref q_shore_ways_keepers, .ref q_shore_ways_changed, .ref q_shore_ways_row])), (q_shore_ways_keepers, .inl (g.2.1, 4320, .inl f_shore_ways_keepers)), (q_shore_told_flashes, .inl (g.2.1, 6, .inl f_shore_told_flashes)), (q_this, .inr (2, [.ref q_shore, .int v_safe, .ref q_moons, .ref q_firsts, .ref q_queue, .int u7.1, .int v_from])), (q_moons, .inl (g.2.1, 720, .inl u7.2.1)), (q_firsts, .inl (g.2.1, 720, .inl u7.2.2.1)), (q_queue, .inl (g.2.1, 720, .inl u7.2.2.2))] := hD
        have hP : va_P g.1 vwCl [(q_this, .inr (2, [.ref q_shore, .int v_safe, .ref q_moons, .ref q_firsts, .ref q_queue, .int u7.1, .int v_from])), (q_moons, .inl (g.2.1, 720, .inl u7.2.1)), (q_shore, .inr (3, [.ref q_shore_told, .ref q_shore_ways])), (q_shore_told, .inr (4, [.int v_shore_told_keepers, .int v_shore_told_hates, .int v_shore_told_sight, .int v_shore_told_sightTold, .ref q_shore_told_flashes, .ref q_shore_told_haters])), (q_shore_ways, .inr (5, [.int v_shore_ways_rocks, .int v_shore_ways_many, .ref q_shore_ways_keepers, .ref q_shore_ways_changed, .ref q_shore_ways_row])), (q_shore_ways_keepers, .inl (g.2.1, 4320, .inl f_shore_ways_keepers)), (q_shore_told_flashes, .inl (g.2.1, 6, .inl f_shore_told_flashes)), (q_firsts, .inl (g.2.1, 720, .inl u7.2.2.1)), (q_queue, .inl (g.2.1, 720, .inl u7.2.2.2))] H := hP.sub [5, 6, 0, 1, 2, 3, 4, 7, 8] rfl
        have hD : va_D A [(q_this, .inr (2, [.ref q_shore, .int v_safe, .ref q_moons, .ref q_firsts, .ref q_queue, .int u7.1, .int v_from])), (q_moons, .inl (g.2.1, 720, .inl u7.2.1)), (q_shore, .inr (3, [.ref q_shore_told, .ref q_shore_ways])), (q_shore_told, .inr (4, [.int v_shore_told_keepers, .int v_shore_told_hates, .int v_shore_told_sight, .int v_shore_told_sightTold, .ref q_shore_told_flashes, .ref q_shore_told_haters])), (q_shore_ways, .inr (5, [.int v_shore_ways_rocks, .int v_shore_ways_many, .ref q_shore_ways_keepers, .ref q_shore_ways_changed, .ref q_shore_ways_row])), (q_shore_ways_keepers, .inl (g.2.1, 4320, .inl f_shore_ways_keepers)), (q_shore_told_flashes, .inl (g.2.1, 6, .inl f_shore_told_flashes)), (q_firsts, .inl (g.2.1, 720, .inl u7.2.2.1)), (q_queue, .inl (g.2.1, 720, .inl u7.2.2.2))] := hD.sub [5, 6, 0, 1, 2, 3, 4, 7, 8] (by decide) rfl
        cases hres
        exact ret_v C0 hP hD hS dX2_reach_52
      · have hres := it_f hres c6
        refine lv_aload_n hx hb dX2_reach_32 rfl (lv_at hl 0 rfl) ?_
        refine va_get (D := g.1) (ci := 2) (v := .ref q_moons) (C := RX2) (T := TX2) (N := 7) hx hb hts in_X2_reach_X2 hown hK hP 0 rfl rfl 2 (by decide) (hts (.fieldLink RX2 9 "LightKeepers$Search" "moons" "[I") (List.mem_of_getElem? (i := 1) rfl)) (fun _ h9 => h9) rfl dX2_reach_33 ?_
        refine lv_iload_n hx hb dX2_reach_36 rfl (lv_at hl 1 rfl) ?_
        refine lv_bipush (v := (-8)) hx hb dX2_reach_37 (by decide) ?_
        obtain ⟨u8, hu8, hres⟩ := bd hres
        refine k_v C0 (run_SN (As := [.ref q_moons, .int x1, .int (-8)]) (rest := []) C0 (c_X6_put l g (q_a0 := q_moons) (n_a0 := 720) (f_a0 := f_moons) (x1 := x1) (x2 := (-8)) (u0 := u8) hu8 _) 3 gX2_reach_X6_put_n78 rfl rfl rfl (List.mem_of_getElem? (i := 9) rfl) (List.mem_of_getElem? (i := 36) rfl) (List.mem_of_getElem? (i := 5) rfl) hd_X6_put ⟨Nat.le_of_ble_eq_true rfl, Nat.le_of_ble_eq_true rfl⟩ hP hD hS [3] rfl rfl rfl hl.1 rfl (Nat.le_of_ble_eq_true rfl) ⟨Nat.zero_le _, Nat.zero_le _⟩ dX2_reach_39) hP hD hS [3] [0, 1, 2, 4, 5, 6, 7, 8] rfl rfl rfl (by decide) (fun H locs hP hD hS => ?_)
        have hP : va_P g.1 vwCl [(q_this, .inr (2, [.ref q_shore, .int v_safe, .ref q_moons, .ref q_firsts, .ref q_queue, .int v_queued, .int v_from])), (q_firsts, .inl (g.2.1, 720, .inl f_firsts)), (q_queue, .inl (g.2.1, 720, .inl f_queue)), (q_shore, .inr (3, [.ref q_shore_told, .ref q_shore_ways])), (q_shore_told, .inr (4, [.int v_shore_told_keepers, .int v_shore_told_hates, .int v_shore_told_sight, .int v_shore_told_sightTold, .ref q_shore_told_flashes, .ref q_shore_told_haters])), (q_shore_ways, .inr (5, [.int v_shore_ways_rocks, .int v_shore_ways_many, .ref q_shore_ways_keepers, .ref q_shore_ways_changed, .ref q_shore_ways_row])), (q_shore_ways_keepers, .inl (g.2.1, 4320, .inl f_shore_ways_keepers)), (q_shore_told_flashes, .inl (g.2.1, 6, .inl f_shore_told_flashes)), (q_moons, .inl (g.2.1, 720, .inl u8))] H := hP
        have hD : va_D A [(q_this, .inr (2, [.ref q_shore, .int v_safe, .ref q_moons, .ref q_firsts, .ref q_queue, .int v_queued, .int v_from])), (q_firsts, .inl (g.2.1, 720, .inl f_firsts)), (q_queue, .inl (g.2.1, 720, .inl f_queue)), (q_shore, .inr (3, [.ref q_shore_told, .ref q_shore_ways])), (q_shore_told, .inr (4, [.int v_shore_told_keepers, .int v_shore_told_hates, .int v_shore_told_sight, .int v_shore_told_sightTold, .ref q_shore_told_flashes, .ref q_shore_told_haters])), (q_shore_ways, .inr (5, [.int v_shore_ways_rocks, .int v_shore_ways_many, .ref q_shore_ways_keepers, .ref q_shore_ways_changed, .ref q_shore_ways_row])), (q_shore_ways_keepers, .inl (g.2.1, 4320, .inl f_shore_ways_keepers)), (q_shore_told_flashes, .inl (g.2.1, 6, .inl f_shore_told_flashes)), (q_moons, .inl (g.2.1, 720, .inl u8))] := hD
        refine lv_goto (tgt := 52) hx hb dX2_reach_42 (by decide) ?_
        have hP : va_P g.1 vwCl [(q_this, .inr (2, [.ref q_shore, .int v_safe, .ref q_moons, .ref q_firsts, .ref q_queue, .int v_queued, .int v_from])), (q_moons, .inl (g.2.1, 720, .inl u8)), (q_shore, .inr (3, [.ref q_shore_told, .ref q_shore_ways])), (q_shore_told, .inr (4, [.int v_shore_told_keepers, .int v_shore_told_hates, .int v_shore_told_sight, .int v_shore_told_sightTold, .ref q_shore_told_flashes, .ref q_shore_told_haters])), (q_shore_ways, .inr (5, [.int v_shore_ways_rocks, .int v_shore_ways_many, .ref q_shore_ways_keepers, .ref q_shore_ways_changed, .ref q_shore_ways_row])), (q_shore_ways_keepers, .inl (g.2.1, 4320, .inl f_shore_ways_keepers)), (q_shore_told_flashes, .inl (g.2.1, 6, .inl f_shore_told_flashes)), (q_firsts, .inl (g.2.1, 720, .inl f_firsts)), (q_queue, .inl (g.2.1, 720, .inl f_queue))] H := hP.sub [0, 8, 3, 4, 5, 6, 7, 1, 2] rfl
        have hD : va_D A [(q_this, .inr (2, [.ref q_shore, .int v_safe, .ref q_moons, .ref q_firsts, .ref q_queue, .int v_queued, .int v_from])), (q_moons, .inl (g.2.1, 720, .inl u8)), (q_shore, .inr (3, [.ref q_shore_told, .ref q_shore_ways])), (q_shore_told, .inr (4, [.int v_shore_told_keepers, .int v_shore_told_hates, .int v_shore_told_sight, .int v_shore_told_sightTold, .ref q_shore_told_flashes, .ref q_shore_told_haters])), (q_shore_ways, .inr (5, [.int v_shore_ways_rocks, .int v_shore_ways_many, .ref q_shore_ways_keepers, .ref q_shore_ways_changed, .ref q_shore_ways_row])), (q_shore_ways_keepers, .inl (g.2.1, 4320, .inl f_shore_ways_keepers)), (q_shore_told_flashes, .inl (g.2.1, 6, .inl f_shore_told_flashes)), (q_firsts, .inl (g.2.1, 720, .inl f_firsts)), (q_queue, .inl (g.2.1, 720, .inl f_queue))] := hD.sub [0, 8, 3, 4, 5, 6, 7, 1, 2] (by decide) rfl
        cases hres
        exact ret_v C0 hP hD hS dX2_reach_52
  · have hres := it_f hres c2
    have hP : va_P g.1 vwCl [(q_this, .inr (2, [.ref q_shore, .int v_safe, .ref q_moons, .ref q_firsts, .ref q_queue, .int v_queued, .int v_from])), (q_moons, .inl (g.2.1, 720, .inl f_moons)), (q_shore, .inr (3, [.ref q_shore_told, .ref q_shore_ways])), (q_shore_told, .inr (4, [.int v_shore_told_keepers, .int v_shore_told_hates, .int v_shore_told_sight, .int v_shore_told_sightTold, .ref q_shore_told_flashes, .ref q_shore_told_haters])), (q_shore_ways, .inr (5, [.int v_shore_ways_rocks, .int v_shore_ways_many, .ref q_shore_ways_keepers, .ref q_shore_ways_changed, .ref q_shore_ways_row])), (q_shore_ways_keepers, .inl (g.2.1, 4320, .inl f_shore_ways_keepers)), (q_shore_told_flashes, .inl (g.2.1, 6, .inl f_shore_told_flashes)), (q_firsts, .inl (g.2.1, 720, .inl f_firsts)), (q_queue, .inl (g.2.1, 720, .inl f_queue))] H := hP.sub [0, 8, 1, 2, 3, 4, 5, 6, 7] rfl
    have hD : va_D A [(q_this, .inr (2, [.ref q_shore, .int v_safe, .ref q_moons, .ref q_firsts, .ref q_queue, .int v_queued, .int v_from])), (q_moons, .inl (g.2.1, 720, .inl f_moons)), (q_shore, .inr (3, [.ref q_shore_told, .ref q_shore_ways])), (q_shore_told, .inr (4, [.int v_shore_told_keepers, .int v_shore_told_hates, .int v_shore_told_sight, .int v_shore_told_sightTold, .ref q_shore_told_flashes, .ref q_shore_told_haters])), (q_shore_ways, .inr (5, [.int v_shore_ways_rocks, .int v_shore_ways_many, .ref q_shore_ways_keepers, .ref q_shore_ways_changed, .ref q_shore_ways_row])), (q_shore_ways_keepers, .inl (g.2.1, 4320, .inl f_shore_ways_keepers)), (q_shore_told_flashes, .inl (g.2.1, 6, .inl f_shore_told_flashes)), (q_firsts, .inl (g.2.1, 720, .inl f_firsts)), (q_queue, .inl (g.2.1, 720, .inl f_queue))] := hD.sub [0, 8, 1, 2, 3, 4, 5, 6, 7] (by decide) rfl
    cases hres
    exact ret_v C0 hP hD hS dX2_reach_13
set_option maxHeartbeats 4000000 in
set_option maxRecDepth 100000 in
theorem c_X5_changedAt (l : Launch) (g : gG) {q_this q_keepers q_changed q_row : Nat} {v_rocks : Int32} {v_many : Int32} {f_changed : Nat → Int32} {x1 : Int32} {x2 : Int32} {u0 : Int32} (hres : f_X5_changedAt f_changed x1 x2 = some u0) : Ci l g yX5_changedAt wsX5_changedAt rm_X5_changedAt [.ref q_this, .int x1, .int x2] [(q_this, .inr (5, [.int v_rocks, .int v_many, .ref q_keepers, .ref q_changed, .ref q_row])), (q_changed, .inl (g.2.1, 3600, .inl f_changed))] [(q_this, .inr (5, [.int v_rocks, .int v_many, .ref q_keepers, .ref q_changed, .ref q_row])), (q_changed, .inl (g.2.1, 3600, .inl f_changed))] u0 := by
  intro sz
  refine gBody (Qf := fun A => gQi g [(q_this, .inr (5, [.int v_rocks, .int v_many, .ref q_keepers, .ref q_changed, .ref q_row])), (q_changed, .inl (g.2.1, 3600, .inl f_changed))] u0 A) (cc := cX5_changedAt) (maxL := 3) (ret := (some .int)) (own := RX5) (by decide +kernel) rfl rfl (Nat.le_of_ble_eq_true rfl) ?_
  intro p e s m args below meth c A C0 H hS hD hP ls hl
  obtain ⟨hx, hb, hml, hown, hts, hr, hlk, hN, hK, hF, hA⟩ := id C0
  have hl : lv_has ls 3 [(0, .ref q_this), (1, .int x1), (2, .int x2)] := hl
  unfold f_X5_changedAt at hres
  refine lv_iload_n hx hb dX5_changedAt_0 rfl (lv_at hl 1 rfl) ?_
  refine lv_if_lt (tgt := 20) hx hb dX5_changedAt_1 (by decide) (fun c1 => ?_) (fun c1 => ?_)
  · have hres := it_t hres c1
    refine lv_iload_n hx hb dX5_changedAt_20 rfl (lv_at hl 1 rfl) ?_
    cases hres
    exact ret_i C0 hP hD hS dX5_changedAt_21
  · have hres := it_f hres c1
    refine lv_iload_n hx hb dX5_changedAt_4 rfl (lv_at hl 1 rfl) ?_
    refine lv_sipush (v := 720) hx hb dX5_changedAt_5 (by decide) ?_
    refine lv_icmp_ge (tgt := 20) hx hb dX5_changedAt_8 (by decide) (fun c2 => ?_) (fun c2 => ?_)
    · have hres := it_t hres c2
      refine lv_iload_n hx hb dX5_changedAt_20 rfl (lv_at hl 1 rfl) ?_
      cases hres
      exact ret_i C0 hP hD hS dX5_changedAt_21
    · have hres := it_f hres c2
      refine lv_iload_n hx hb dX5_changedAt_11 rfl (lv_at hl 2 rfl) ?_
      refine lv_if_lt (tgt := 20) hx hb dX5_changedAt_12 (by decide) (fun c3 => ?_) (fun c3 => ?_)
      · have hres := it_t hres c3
        refine lv_iload_n hx hb dX5_changedAt_20 rfl (lv_at hl 1 rfl) ?_
        cases hres
        exact ret_i C0 hP hD hS dX5_changedAt_21
      · have hres := it_f hres c3
        refine lv_iload_n hx hb dX5_changedAt_15 rfl (lv_at hl 2 rfl) ?_
        refine lv_iconst (v := 5) hx hb dX5_changedAt_16 (by decide) ?_
        refine lv_icmp_lt (tgt := 22) hx hb dX5_changedAt_17 (by decide) (fun c4 => ?_) (fun c4 => ?_)
        · have hres := it_t hres c4
          refine lv_aload_n hx hb dX5_changedAt_22 rfl (lv_at hl 0 rfl) ?_
          refine va_get (D := g.1) (ci := 5) (v := .ref q_changed) (C := RX5) (T := TX5) (N := 5) hx hb hts in_X5_changedAt_X5 hown hK hP 0 rfl rfl 3 (by decide) (hts (.fieldLink RX5 19 "LightKeepers$Ways" "changed" "[I") (List.mem_of_getElem? (i := 1) rfl)) (fun _ h9 => h9) rfl dX5_changedAt_23 ?_
          refine lv_iload_n hx hb dX5_changedAt_26 rfl (lv_at hl 1 rfl) ?_
          refine lv_iconst (v := 5) hx hb dX5_changedAt_27 (by decide) ?_
          refine lv_imul hx hb dX5_changedAt_28 ?_
          refine lv_iload_n hx hb dX5_changedAt_29 rfl (lv_at hl 2 rfl) ?_
          refine lv_iadd hx hb dX5_changedAt_30 ?_
          have c5 := gd1 hres
          have hres := gd2 hres
          refine va_iald hx hb hK hP 1 0 rfl rfl (show vp_in _ _ from c5) dX5_changedAt_31 ?_
          cases hres
          exact ret_i C0 hP hD hS dX5_changedAt_32
        · have hres := it_f hres c4
          refine lv_iload_n hx hb dX5_changedAt_20 rfl (lv_at hl 1 rfl) ?_
          cases hres
          exact ret_i C0 hP hD hS dX5_changedAt_21
set_option maxHeartbeats 4000000 in
set_option maxRecDepth 100000 in
theorem w_X3_after_L5 {p : Program} {l : Launch} {e : Env} {s : State} {m : MethodId} {args : Array Value} {below : List Frame} {meth : Method} {c : Code} {g : gG} {A : Nat → Prop} {q_this q_told q_ways q_ways_keepers q_ways_changed q_ways_row : Nat} {v_ways_rocks : Int32} {v_ways_many : Int32} {f_ways_changed : Nat → Int32} {x2 : Int32} {u0 : Int32} {k : Int32 → Int32 → Option (Int32)} {n : Nat} {x3 : Int32} {x4 : Int32} {H : Heap} {locs : List Loc} {ls : Array Slot} (C0 : Cx p s m args meth c RX3 cX3_after 5 wsX3_after (some .int) g A)
    (hP : va_P g.1 vwCl [(q_this, .inr (3, [.ref q_told, .ref q_ways])), (q_ways, .inr (5, [.int v_ways_rocks, .int v_ways_many, .ref q_ways_keepers, .ref q_ways_changed, .ref q_ways_row])), (q_ways_changed, .inl (g.2.1, 3600, .inl f_ways_changed))] H) (hD : va_D A [(q_this, .inr (3, [.ref q_told, .ref q_ways])), (q_ways, .inr (5, [.int v_ways_rocks, .int v_ways_many, .ref q_ways_keepers, .ref q_ways_changed, .ref q_ways_row])), (q_ways_changed, .inl (g.2.1, 3600, .inl f_ways_changed))]) (hS : va_S A s.heap H locs) (hl : lv_has ls 5 [(0, .ref q_this), (2, .int x2), (3, .int x3), (4, .int x4)]) (hres : lp_X3_after_L5 f_ways_changed x2 k n x3 x4 = some u0)
    (K : ∀ (x3 : Int32) (x4 : Int32) (H : Heap) (locs : List Loc) (ls : Array Slot), va_P g.1 vwCl [(q_this, .inr (3, [.ref q_told, .ref q_ways])), (q_ways, .inr (5, [.int v_ways_rocks, .int v_ways_many, .ref q_ways_keepers, .ref q_ways_changed, .ref q_ways_row])), (q_ways_changed, .inl (g.2.1, 3600, .inl f_ways_changed))] H → va_D A [(q_this, .inr (3, [.ref q_told, .ref q_ways])), (q_ways, .inr (5, [.int v_ways_rocks, .int v_ways_many, .ref q_ways_keepers, .ref q_ways_changed, .ref q_ways_row])), (q_ways_changed, .inl (g.2.1, 3600, .inl f_ways_changed))] → va_S A s.heap H locs → lv_has ls 5 [(0, .ref q_this), (2, .int x2), (3, .int x3), (4, .int x4)] → k x3 x4 = some u0 → W p l e rm_X3_after s m args below meth c H locs 0 0 (MQ below (gQi g [(q_this, .inr (3, [.ref q_told, .ref q_ways])), (q_ways, .inr (5, [.int v_ways_rocks, .int v_ways_many, .ref q_ways_keepers, .ref q_ways_changed, .ref q_ways_row])), (q_ways_changed, .inl (g.2.1, 3600, .inl f_ways_changed))] u0 A) args s 0 0 A) (F0 m 38 ls [])) :
    W p l e rm_X3_after s m args below meth c H locs 0 0 (MQ below (gQi g [(q_this, .inr (3, [.ref q_told, .ref q_ways])), (q_ways, .inr (5, [.int v_ways_rocks, .int v_ways_many, .ref q_ways_keepers, .ref q_ways_changed, .ref q_ways_row])), (q_ways_changed, .inl (g.2.1, 3600, .inl f_ways_changed))] u0 A) args s 0 0 A) (F0 m 5 ls []) := by
  obtain ⟨hx, hb, hml, hown, hts, hr, hlk, hN, hK, hF, hA⟩ := id C0
  induction n generalizing x3 x4 H locs ls with
  | zero => cases hres
  | succ n ih =>
    unfold lp_X3_after_L5 at hres
    refine lv_iload hx hb dX3_after_5 (lv_at hl 3 rfl) ?_
    refine lv_iconst (v := 5) hx hb dX3_after_7 (by decide) ?_
    refine lv_icmp_ge (tgt := 38) hx hb dX3_after_8 (by decide) (fun c1 => ?_) (fun c1 => ?_)
    · have hres := it_t hres c1
      exact K _ _ _ _ _ hP hD hS hl hres
    · have hres := it_f hres c1
      refine lv_iload_n hx hb dX3_after_11 rfl (lv_at hl 1 rfl) ?_
      refine lv_iload hx hb dX3_after_12 (lv_at hl 3 rfl) ?_
      refine lv_ishr hx hb dX3_after_14 ?_
      refine lv_iconst (v := 1) hx hb dX3_after_15 (by decide) ?_
      refine lv_iand hx hb dX3_after_16 ?_
      refine lv_iconst (v := 1) hx hb dX3_after_17 (by decide) ?_
      refine lv_icmp_ne (tgt := 32) hx hb dX3_after_18 (by decide) (fun c2 => ?_) (fun c2 => ?_)
      · have hres := it_f hres c2
        refine lv_iinc (v := (x4 + 1)) (lv' := [(4, .int (x4 + 1)), (0, .ref q_this), (2, .int x2), (3, .int x3)]) hx hb dX3_after_32 hl (k := 3) rfl rfl (by decide) rfl (fun ls hl => ?_)
        refine lv_goto (tgt := 5) hx hb dX3_after_35 (by decide) ?_
        have hl : lv_has ls 5 [(0, .ref q_this), (2, .int x2), (3, .int x3), (4, .int (x4 + 1))] := lv_sub hl [1, 2, 3, 0] rfl
        exact ih hP hS hl hres
      · have hres := it_t hres c2
        refine lv_aload_n hx hb dX3_after_21 rfl (lv_at hl 0 rfl) ?_
        refine va_get (D := g.1) (ci := 3) (v := .ref q_ways) (C := RX3) (T := TX3) (N := 2) hx hb hts in_X3_after_X3 hown hK hP 0 rfl rfl 1 (by decide) (hts (.fieldLink RX3 21 "LightKeepers$Shore" "ways" "LLightKeepers$Ways;") (List.mem_of_getElem? (i := 1) rfl)) (fun _ h9 => h9) rfl dX3_after_22 ?_
        refine lv_iload_n hx hb dX3_after_25 rfl (lv_at hl 2 rfl) ?_
        refine lv_iload hx hb dX3_after_26 (lv_at hl 3 rfl) ?_
        obtain ⟨u3, hu3, hres⟩ := bd hres
        refine k_i C0 (run_V (As := [.int x3, .int x4]) (rest := []) C0 (c_X5_changedAt l g (q_this := q_ways) (q_keepers := q_ways_keepers) (q_changed := q_ways_changed) (q_row := q_ways_row) (v_rocks := v_ways_rocks) (v_many := v_ways_many) (f_changed := f_ways_changed) (x1 := x3) (x2 := x4) (u0 := u3) hu3 _) 2 gX3_after_X5_changedAt rfl rfl rfl hd_X5_changedAt ⟨Nat.le_of_ble_eq_true rfl, Nat.le_of_ble_eq_true rfl⟩ hP hD hS [1, 2] rfl rfl 1 5 rfl rfl rfl hl.1 rfl (Nat.le_of_ble_eq_true rfl) ⟨Nat.zero_le _, Nat.zero_le _⟩ dX3_after_28) hP hD hS [1, 2] [0] rfl rfl rfl (by decide) (fun H locs hP hD hS => ?_)
        have hP : va_P g.1 vwCl [(q_this, .inr (3, [.ref q_told, .ref q_ways])), (q_ways, .inr (5, [.int v_ways_rocks, .int v_ways_many, .ref q_ways_keepers, .ref q_ways_changed, .ref q_ways_row])), (q_ways_changed, .inl (g.2.1, 3600, .inl f_ways_changed))] H := hP
        have hD : va_D A [(q_this, .inr (3, [.ref q_told, .ref q_ways])), (q_ways, .inr (5, [.int v_ways_rocks, .int v_ways_many, .ref q_ways_keepers, .ref q_ways_changed, .ref q_ways_row])), (q_ways_changed, .inl (g.2.1, 3600, .inl f_ways_changed))] := hD
        refine lv_istore_n (lv' := [(3, .int u3), (0, .ref q_this), (2, .int x2), (4, .int x4)]) hx hb dX3_after_31 rfl hl (by decide) rfl (fun ls hl => ?_)
        refine lv_iinc (v := (x4 + 1)) (lv' := [(4, .int (x4 + 1)), (3, .int u3), (0, .ref q_this), (2, .int x2)]) hx hb dX3_after_32 hl (k := 3) rfl rfl (by decide) rfl (fun ls hl => ?_)
        refine lv_goto (tgt := 5) hx hb dX3_after_35 (by decide) ?_
        have hl : lv_has ls 5 [(0, .ref q_this), (2, .int x2), (3, .int u3), (4, .int (x4 + 1))] := lv_sub hl [2, 3, 1, 0] rfl
        exact ih hP hS hl hres
set_option maxHeartbeats 4000000 in
set_option maxRecDepth 100000 in
theorem c_X3_after (l : Launch) (g : gG) {q_this q_told q_ways q_ways_keepers q_ways_changed q_ways_row : Nat} {v_ways_rocks : Int32} {v_ways_many : Int32} {f_ways_changed : Nat → Int32} {x1 : Int32} {x2 : Int32} {u0 : Int32} (hres : f_X3_after f_ways_changed x1 x2 = some u0) : Ci l g yX3_after wsX3_after rm_X3_after [.ref q_this, .int x1, .int x2] [(q_this, .inr (3, [.ref q_told, .ref q_ways])), (q_ways, .inr (5, [.int v_ways_rocks, .int v_ways_many, .ref q_ways_keepers, .ref q_ways_changed, .ref q_ways_row])), (q_ways_changed, .inl (g.2.1, 3600, .inl f_ways_changed))] [(q_this, .inr (3, [.ref q_told, .ref q_ways])), (q_ways, .inr (5, [.int v_ways_rocks, .int v_ways_many, .ref q_ways_keepers, .ref q_ways_changed, .ref q_ways_row])), (q_ways_changed, .inl (g.2.1, 3600, .inl f_ways_changed))] u0 := by
  intro sz
  refine gBody (Qf := fun A => gQi g [(q_this, .inr (3, [.ref q_told, .ref q_ways])), (q_ways, .inr (5, [.int v_ways_rocks, .int v_ways_many, .ref q_ways_keepers, .ref q_ways_changed, .ref q_ways_row])), (q_ways_changed, .inl (g.2.1, 3600, .inl f_ways_changed))] u0 A) (cc := cX3_after) (maxL := 5) (ret := (some .int)) (own := RX3) (by decide +kernel) rfl rfl (Nat.le_of_ble_eq_true rfl) ?_
  intro p e s m args below meth c A C0 H hS hD hP ls hl
  obtain ⟨hx, hb, hml, hown, hts, hr, hlk, hN, hK, hF, hA⟩ := id C0
  have hl : lv_has ls 5 [(0, .ref q_this), (1, .int x1), (2, .int x2)] := hl
  unfold f_X3_after at hres
  refine lv_iload_n hx hb dX3_after_0 rfl (lv_at hl 1 rfl) ?_
  refine lv_istore_n (lv' := [(3, .int x1), (0, .ref q_this), (1, .int x1), (2, .int x2)]) hx hb dX3_after_1 rfl hl (by decide) rfl (fun ls hl => ?_)
  refine lv_iconst (v := 0) hx hb dX3_after_2 (by decide) ?_
  refine lv_istore (lv' := [(4, .int 0), (3, .int x1), (0, .ref q_this), (1, .int x1), (2, .int x2)]) hx hb dX3_after_3 hl (by decide) rfl (fun ls hl => ?_)
  have hl : lv_has ls 5 [(0, .ref q_this), (2, .int x2), (3, .int x1), (4, .int 0)] := lv_sub hl [2, 4, 1, 0] rfl
  refine w_X3_after_L5 C0 hP hD hS hl hres (fun y4 y5 H locs ls hP hD hS hl hres => ?_)
  refine lv_iload_n hx hb dX3_after_38 rfl (lv_at hl 2 rfl) ?_
  cases hres
  exact ret_i C0 hP hD hS dX3_after_39
set_option maxHeartbeats 4000000 in
set_option maxRecDepth 100000 in
theorem c_X3_allows (l : Launch) (g : gG) {x0 : Int32} {x1 : Int32} {u0 : Int32} (hres : f_X3_allows x0 x1 = some u0) : Ci l g yX3_allows wsX3_allows rm_X3_allows [.int x0, .int x1] [] [] u0 := by
  intro sz
  refine gBody (Qf := fun A => gQi g [] u0 A) (cc := cX3_allows) (maxL := 3) (ret := (some .boolean)) (own := RX3) (by decide +kernel) rfl rfl (Nat.le_of_ble_eq_true rfl) ?_
  intro p e s m args below meth c A C0 H hS hD hP ls hl
  obtain ⟨hx, hb, hml, hown, hts, hr, hlk, hN, hK, hF, hA⟩ := id C0
  have hl : lv_has ls 3 [(0, .int x0), (1, .int x1)] := hl
  unfold f_X3_allows at hres
  refine lv_iload_n hx hb dX3_allows_0 rfl (lv_at hl 1 rfl) ?_
  refine lv_iload_n hx hb dX3_allows_1 rfl (lv_at hl 1 rfl) ?_
  refine lv_iconst (v := 1) hx hb dX3_allows_2 (by decide) ?_
  refine lv_ishr hx hb dX3_allows_3 ?_
  refine lv_iand hx hb dX3_allows_4 ?_
  refine lv_if_ne (tgt := 12) hx hb dX3_allows_5 (by decide) (fun c1 => ?_) (fun c1 => ?_)
  · have hres := it_f hres c1
    refine lv_iconst (v := 0) hx hb dX3_allows_12 (by decide) ?_
    refine lv_istore_n (lv' := [(2, .int 0), (0, .int x0), (1, .int x1)]) hx hb dX3_allows_13 rfl hl (by decide) rfl (fun ls hl => ?_)
    refine lv_iload_n hx hb dX3_allows_14 rfl (lv_at hl 0 rfl) ?_
    refine lv_if_eq (tgt := 30) hx hb dX3_allows_15 (by decide) (fun _ => ?_) (fun c9 => absurd (by decide) c9)
    refine lv_iconst (v := 0) hx hb dX3_allows_30 (by decide) ?_
    cases hres
    exact ret_z C0 (v := 0) rfl hP hD hS dX3_allows_31
  · have hres := it_t hres c1
    refine lv_iconst (v := 1) hx hb dX3_allows_8 (by decide) ?_
    refine lv_goto (tgt := 13) hx hb dX3_allows_9 (by decide) ?_
    refine lv_istore_n (lv' := [(2, .int 1), (0, .int x0), (1, .int x1)]) hx hb dX3_allows_13 rfl hl (by decide) rfl (fun ls hl => ?_)
    refine lv_iload_n hx hb dX3_allows_14 rfl (lv_at hl 0 rfl) ?_
    refine lv_if_eq (tgt := 30) hx hb dX3_allows_15 (by decide) (fun c9 => absurd c9 (by decide)) (fun _ => ?_)
    refine lv_iload_n hx hb dX3_allows_18 rfl (lv_at hl 2 rfl) ?_
    refine lv_iload_n hx hb dX3_allows_19 rfl (lv_at hl 1 rfl) ?_
    refine lv_iconst (v := (-1)) hx hb dX3_allows_20 (by decide) ?_
    refine lv_ixor hx hb dX3_allows_21 ?_
    refine lv_iand hx hb dX3_allows_22 ?_
    refine lv_if_ne (tgt := 30) hx hb dX3_allows_23 (by decide) (fun c2 => ?_) (fun c2 => ?_)
    · have hres := it_f hres c2
      refine lv_iconst (v := 0) hx hb dX3_allows_30 (by decide) ?_
      cases hres
      exact ret_z C0 (v := 0) rfl hP hD hS dX3_allows_31
    · have hres := it_t hres c2
      refine lv_iconst (v := 1) hx hb dX3_allows_26 (by decide) ?_
      refine lv_goto (tgt := 31) hx hb dX3_allows_27 (by decide) ?_
      cases hres
      exact ret_z C0 (v := 1) rfl hP hD hS dX3_allows_31
set_option maxHeartbeats 4000000 in
set_option maxRecDepth 100000 in
theorem c_X3_changes (l : Launch) (g : gG) {q_this q_told q_ways q_told_flashes q_told_haters : Nat} {v_told_keepers : Int32} {v_told_hates : Int32} {v_told_sight : Int32} {v_told_sightTold : Int32} {u0 : Int32} (hres : f_X3_changes v_told_keepers = some u0) : Ci l g yX3_changes wsX3_changes rm_X3_changes [.ref q_this] [(q_this, .inr (3, [.ref q_told, .ref q_ways])), (q_told, .inr (4, [.int v_told_keepers, .int v_told_hates, .int v_told_sight, .int v_told_sightTold, .ref q_told_flashes, .ref q_told_haters]))] [(q_this, .inr (3, [.ref q_told, .ref q_ways])), (q_told, .inr (4, [.int v_told_keepers, .int v_told_hates, .int v_told_sight, .int v_told_sightTold, .ref q_told_flashes, .ref q_told_haters]))] u0 := by
  intro sz
  refine gBody (Qf := fun A => gQi g [(q_this, .inr (3, [.ref q_told, .ref q_ways])), (q_told, .inr (4, [.int v_told_keepers, .int v_told_hates, .int v_told_sight, .int v_told_sightTold, .ref q_told_flashes, .ref q_told_haters]))] u0 A) (cc := cX3_changes) (maxL := 1) (ret := (some .int)) (own := RX3) (by decide +kernel) rfl rfl (Nat.le_of_ble_eq_true rfl) ?_
  intro p e s m args below meth c A C0 H hS hD hP ls hl
  obtain ⟨hx, hb, hml, hown, hts, hr, hlk, hN, hK, hF, hA⟩ := id C0
  have hl : lv_has ls 1 [(0, .ref q_this)] := hl
  unfold f_X3_changes at hres
  refine lv_aload_n hx hb dX3_changes_0 rfl (lv_at hl 0 rfl) ?_
  refine va_get (D := g.1) (ci := 3) (v := .ref q_told) (C := RX3) (T := TX3) (N := 2) hx hb hts in_X3_changes_X3 hown hK hP 0 rfl rfl 0 (by decide) (hts (.fieldLink RX3 12 "LightKeepers$Shore" "told" "LLightKeepers$Told;") (List.mem_of_getElem? (i := 1) rfl)) (fun _ h9 => h9) rfl dX3_changes_1 ?_
  refine va_get (D := g.1) (ci := 4) (v := .int v_told_keepers) (C := RX4) (T := TX4) (N := 6) hx hb hts in_X3_changes_X4 hown hK hP 1 rfl rfl 0 (by decide) (hts (.fieldLink RX3 29 "LightKeepers$Told" "keepers" "I") (List.mem_of_getElem? (i := 2) rfl)) (fun _ h9 => h9) rfl dX3_changes_4 ?_
  refine lv_iconst (v := 1) hx hb dX3_changes_7 (by decide) ?_
  refine lv_icmp_le (tgt := 25) hx hb dX3_changes_8 (by decide) (fun c1 => ?_) (fun c1 => ?_)
  · have hres := it_t hres c1
    refine lv_iconst (v := 1) hx hb dX3_changes_25 (by decide) ?_
    cases hres
    exact ret_i C0 hP hD hS dX3_changes_26
  · have hres := it_f hres c1
    refine lv_iconst (v := 1) hx hb dX3_changes_11 (by decide) ?_
    refine lv_aload_n hx hb dX3_changes_12 rfl (lv_at hl 0 rfl) ?_
    refine va_get (D := g.1) (ci := 3) (v := .ref q_told) (C := RX3) (T := TX3) (N := 2) hx hb hts in_X3_changes_X3 hown hK hP 0 rfl rfl 0 (by decide) (hts (.fieldLink RX3 12 "LightKeepers$Shore" "told" "LLightKeepers$Told;") (List.mem_of_getElem? (i := 1) rfl)) (fun _ h9 => h9) rfl dX3_changes_13 ?_
    refine va_get (D := g.1) (ci := 4) (v := .int v_told_keepers) (C := RX4) (T := TX4) (N := 6) hx hb hts in_X3_changes_X4 hown hK hP 1 rfl rfl 0 (by decide) (hts (.fieldLink RX3 29 "LightKeepers$Told" "keepers" "I") (List.mem_of_getElem? (i := 2) rfl)) (fun _ h9 => h9) rfl dX3_changes_16 ?_
    refine lv_iconst (v := 1) hx hb dX3_changes_19 (by decide) ?_
    refine lv_isub hx hb dX3_changes_20 ?_
    refine lv_ishl hx hb dX3_changes_21 ?_
    refine lv_goto (tgt := 26) hx hb dX3_changes_22 (by decide) ?_
    cases hres
    exact ret_i C0 hP hD hS dX3_changes_26
set_option maxHeartbeats 4000000 in
set_option maxRecDepth 100000 in
theorem w_X3_willing_L4 {p : Program} {l : Launch} {e : Env} {s : State} {m : MethodId} {args : Array Value} {below : List Frame} {meth : Method} {c : Code} {g : gG} {A : Nat → Prop} {q_this q_told q_ways q_told_flashes q_told_haters q_ways_keepers q_ways_changed q_ways_row : Nat} {v_told_keepers : Int32} {v_told_hates : Int32} {v_told_sight : Int32} {v_told_sightTold : Int32} {v_ways_rocks : Int32} {v_ways_many : Int32} {f_ways_keepers : Nat → Int32} {f_told_haters : Nat → Int32} {x1 : Int32} {u0 : Int32} {k : Int32 → Int32 → Option (Int32)} {n : Nat} {x2 : Int32} {x3 : Int32} {H : Heap} {locs : List Loc} {ls : Array Slot} (C0 : Cx p s m args meth c RX3 cX3_willing 5 wsX3_willing (some .int) g A)
    (hP : va_P g.1 vwCl [(q_this, .inr (3, [.ref q_told, .ref q_ways])), (q_told, .inr (4, [.int v_told_keepers, .int v_told_hates, .int v_told_sight, .int v_told_sightTold, .ref q_told_flashes, .ref q_told_haters])), (q_ways, .inr (5, [.int v_ways_rocks, .int v_ways_many, .ref q_ways_keepers, .ref q_ways_changed, .ref q_ways_row])), (q_ways_keepers, .inl (g.2.1, 4320, .inl f_ways_keepers)), (q_told_haters, .inl (g.2.1, 6, .inl f_told_haters))] H) (hD : va_D A [(q_this, .inr (3, [.ref q_told, .ref q_ways])), (q_told, .inr (4, [.int v_told_keepers, .int v_told_hates, .int v_told_sight, .int v_told_sightTold, .ref q_told_flashes, .ref q_told_haters])), (q_ways, .inr (5, [.int v_ways_rocks, .int v_ways_many, .ref q_ways_keepers, .ref q_ways_changed, .ref q_ways_row])), (q_ways_keepers, .inl (g.2.1, 4320, .inl f_ways_keepers)), (q_told_haters, .inl (g.2.1, 6, .inl f_told_haters))]) (hS : va_S A s.heap H locs) (hl : lv_has ls 5 [(0, .ref q_this), (1, .int x1), (2, .int x2), (3, .int x3)]) (hres : lp_X3_willing_L4 v_told_keepers f_ways_keepers f_told_haters x1 k n x2 x3 = some u0)
    (K : ∀ (x2 : Int32) (x3 : Int32) (H : Heap) (locs : List Loc) (ls : Array Slot), va_P g.1 vwCl [(q_this, .inr (3, [.ref q_told, .ref q_ways])), (q_told, .inr (4, [.int v_told_keepers, .int v_told_hates, .int v_told_sight, .int v_told_sightTold, .ref q_told_flashes, .ref q_told_haters])), (q_ways, .inr (5, [.int v_ways_rocks, .int v_ways_many, .ref q_ways_keepers, .ref q_ways_changed, .ref q_ways_row])), (q_ways_keepers, .inl (g.2.1, 4320, .inl f_ways_keepers)), (q_told_haters, .inl (g.2.1, 6, .inl f_told_haters))] H → va_D A [(q_this, .inr (3, [.ref q_told, .ref q_ways])), (q_told, .inr (4, [.int v_told_keepers, .int v_told_hates, .int v_told_sight, .int v_told_sightTold, .ref q_told_flashes, .ref q_told_haters])), (q_ways, .inr (5, [.int v_ways_rocks, .int v_ways_many, .ref q_ways_keepers, .ref q_ways_changed, .ref q_ways_row])), (q_ways_keepers, .inl (g.2.1, 4320, .inl f_ways_keepers)), (q_told_haters, .inl (g.2.1, 6, .inl f_told_haters))] → va_S A s.heap H locs → lv_has ls 5 [(0, .ref q_this), (1, .int x1), (2, .int x2), (3, .int x3)] → k x2 x3 = some u0 → W p l e rm_X3_willing s m args below meth c H locs 0 0 (MQ below (gQi g [(q_this, .inr (3, [.ref q_told, .ref q_ways])), (q_told, .inr (4, [.int v_told_keepers, .int v_told_hates, .int v_told_sight, .int v_told_sightTold, .ref q_told_flashes, .ref q_told_haters])), (q_ways, .inr (5, [.int v_ways_rocks, .int v_ways_many, .ref q_ways_keepers, .ref q_ways_changed, .ref q_ways_row])), (q_ways_keepers, .inl (g.2.1, 4320, .inl f_ways_keepers)), (q_told_haters, .inl (g.2.1, 6, .inl f_told_haters))] u0 A) args s 0 0 A) (F0 m 66 ls [])) :
    W p l e rm_X3_willing s m args below meth c H locs 0 0 (MQ below (gQi g [(q_this, .inr (3, [.ref q_told, .ref q_ways])), (q_told, .inr (4, [.int v_told_keepers, .int v_told_hates, .int v_told_sight, .int v_told_sightTold, .ref q_told_flashes, .ref q_told_haters])), (q_ways, .inr (5, [.int v_ways_rocks, .int v_ways_many, .ref q_ways_keepers, .ref q_ways_changed, .ref q_ways_row])), (q_ways_keepers, .inl (g.2.1, 4320, .inl f_ways_keepers)), (q_told_haters, .inl (g.2.1, 6, .inl f_told_haters))] u0 A) args s 0 0 A) (F0 m 4 ls []) := by
  obtain ⟨hx, hb, hml, hown, hts, hr, hlk, hN, hK, hF, hA⟩ := id C0
  induction n generalizing x2 x3 H locs ls with
  | zero => cases hres
  | succ n ih =>
    unfold lp_X3_willing_L4 at hres
    refine lv_iload_n hx hb dX3_willing_4 rfl (lv_at hl 3 rfl) ?_
    refine lv_iconst (v := 1) hx hb dX3_willing_5 (by decide) ?_
    refine lv_iadd hx hb dX3_willing_6 ?_
    refine lv_aload_n hx hb dX3_willing_7 rfl (lv_at hl 0 rfl) ?_
    refine va_get (D := g.1) (ci := 3) (v := .ref q_told) (C := RX3) (T := TX3) (N := 2) hx hb hts in_X3_willing_X3 hown hK hP 0 rfl rfl 0 (by decide) (hts (.fieldLink RX3 12 "LightKeepers$Shore" "told" "LLightKeepers$Told;") (List.mem_of_getElem? (i := 1) rfl)) (fun _ h9 => h9) rfl dX3_willing_8 ?_
    refine va_get (D := g.1) (ci := 4) (v := .int v_told_keepers) (C := RX4) (T := TX4) (N := 6) hx hb hts in_X3_willing_X4 hown hK hP 1 rfl rfl 0 (by decide) (hts (.fieldLink RX3 29 "LightKeepers$Told" "keepers" "I") (List.mem_of_getElem? (i := 2) rfl)) (fun _ h9 => h9) rfl dX3_willing_11 ?_
    refine lv_icmp_ge (tgt := 66) hx hb dX3_willing_14 (by decide) (fun c1 => ?_) (fun c1 => ?_)
    · have hres := it_t hres c1
      exact K _ _ _ _ _ hP hD hS hl hres
    · have hres := it_f hres c1
      refine lv_aload_n hx hb dX3_willing_17 rfl (lv_at hl 0 rfl) ?_
      refine va_get (D := g.1) (ci := 3) (v := .ref q_told) (C := RX3) (T := TX3) (N := 2) hx hb hts in_X3_willing_X3 hown hK hP 0 rfl rfl 0 (by decide) (hts (.fieldLink RX3 12 "LightKeepers$Shore" "told" "LLightKeepers$Told;") (List.mem_of_getElem? (i := 1) rfl)) (fun _ h9 => h9) rfl dX3_willing_18 ?_
      refine lv_aload_n hx hb dX3_willing_21 rfl (lv_at hl 0 rfl) ?_
      refine va_get (D := g.1) (ci := 3) (v := .ref q_ways) (C := RX3) (T := TX3) (N := 2) hx hb hts in_X3_willing_X3 hown hK hP 0 rfl rfl 1 (by decide) (hts (.fieldLink RX3 21 "LightKeepers$Shore" "ways" "LLightKeepers$Ways;") (List.mem_of_getElem? (i := 3) rfl)) (fun _ h9 => h9) rfl dX3_willing_22 ?_
      refine lv_iload_n hx hb dX3_willing_25 rfl (lv_at hl 1 rfl) ?_
      refine lv_iload_n hx hb dX3_willing_26 rfl (lv_at hl 3 rfl) ?_
      obtain ⟨u2, hu2, hres⟩ := bd hres
      refine k_i C0 (run_V (As := [.int x1, .int x3]) (rest := [.ref q_told]) C0 (c_X5_who l g (q_this := q_ways) (q_keepers := q_ways_keepers) (q_changed := q_ways_changed) (q_row := q_ways_row) (v_rocks := v_ways_rocks) (v_many := v_ways_many) (f_keepers := f_ways_keepers) (x1 := x1) (x2 := x3) (u0 := u2) hu2 _) 2 gX3_willing_X5_who rfl rfl rfl hd_X5_who ⟨Nat.le_of_ble_eq_true rfl, Nat.le_of_ble_eq_true rfl⟩ hP hD hS [2, 3] rfl rfl 2 5 rfl rfl rfl hl.1 rfl (Nat.le_of_ble_eq_true rfl) ⟨Nat.zero_le _, Nat.zero_le _⟩ dX3_willing_27) hP hD hS [2, 3] [0, 1, 4] rfl rfl rfl (by decide) (fun H locs hP hD hS => ?_)
      have hP : va_P g.1 vwCl [(q_this, .inr (3, [.ref q_told, .ref q_ways])), (q_told, .inr (4, [.int v_told_keepers, .int v_told_hates, .int v_told_sight, .int v_told_sightTold, .ref q_told_flashes, .ref q_told_haters])), (q_told_haters, .inl (g.2.1, 6, .inl f_told_haters)), (q_ways, .inr (5, [.int v_ways_rocks, .int v_ways_many, .ref q_ways_keepers, .ref q_ways_changed, .ref q_ways_row])), (q_ways_keepers, .inl (g.2.1, 4320, .inl f_ways_keepers))] H := hP
      have hD : va_D A [(q_this, .inr (3, [.ref q_told, .ref q_ways])), (q_told, .inr (4, [.int v_told_keepers, .int v_told_hates, .int v_told_sight, .int v_told_sightTold, .ref q_told_flashes, .ref q_told_haters])), (q_told_haters, .inl (g.2.1, 6, .inl f_told_haters)), (q_ways, .inr (5, [.int v_ways_rocks, .int v_ways_many, .ref q_ways_keepers, .ref q_ways_changed, .ref q_ways_row])), (q_ways_keepers, .inl (g.2.1, 4320, .inl f_ways_keepers))] := hD
      obtain ⟨u3, hu3, hres⟩ := bd hres
      refine k_i C0 (run_V (As := [.int u2]) (rest := []) C0 (c_X4_hatersOf l g (q_this := q_told) (q_flashes := q_told_flashes) (q_haters := q_told_haters) (v_keepers := v_told_keepers) (v_hates := v_told_hates) (v_sight := v_told_sight) (v_sightTold := v_told_sightTold) (f_haters := f_told_haters) (x1 := u2) (u0 := u3) hu3 _) 1 gX3_willing_X4_hatersOf rfl rfl rfl hd_X4_hatersOf ⟨Nat.le_of_ble_eq_true rfl, Nat.le_of_ble_eq_true rfl⟩ hP hD hS [1, 2] rfl rfl 1 4 rfl rfl rfl hl.1 rfl (Nat.le_of_ble_eq_true rfl) ⟨Nat.zero_le _, Nat.zero_le _⟩ dX3_willing_30) hP hD hS [1, 2] [0, 3, 4] rfl rfl rfl (by decide) (fun H locs hP hD hS => ?_)
      have hP : va_P g.1 vwCl [(q_this, .inr (3, [.ref q_told, .ref q_ways])), (q_ways, .inr (5, [.int v_ways_rocks, .int v_ways_many, .ref q_ways_keepers, .ref q_ways_changed, .ref q_ways_row])), (q_ways_keepers, .inl (g.2.1, 4320, .inl f_ways_keepers)), (q_told, .inr (4, [.int v_told_keepers, .int v_told_hates, .int v_told_sight, .int v_told_sightTold, .ref q_told_flashes, .ref q_told_haters])), (q_told_haters, .inl (g.2.1, 6, .inl f_told_haters))] H := hP
      have hD : va_D A [(q_this, .inr (3, [.ref q_told, .ref q_ways])), (q_ways, .inr (5, [.int v_ways_rocks, .int v_ways_many, .ref q_ways_keepers, .ref q_ways_changed, .ref q_ways_row])), (q_ways_keepers, .inl (g.2.1, 4320, .inl f_ways_keepers)), (q_told, .inr (4, [.int v_told_keepers, .int v_told_hates, .int v_told_sight, .int v_told_sightTold, .ref q_told_flashes, .ref q_told_haters])), (q_told_haters, .inl (g.2.1, 6, .inl f_told_haters))] := hD
      refine lv_istore (lv' := [(4, .int u3), (0, .ref q_this), (1, .int x1), (2, .int x2), (3, .int x3)]) hx hb dX3_willing_33 hl (by decide) rfl (fun ls hl => ?_)
      refine lv_iload hx hb dX3_willing_35 (lv_at hl 0 rfl) ?_
      refine lv_aload_n hx hb dX3_willing_37 rfl (lv_at hl 1 rfl) ?_
      refine va_get (D := g.1) (ci := 3) (v := .ref q_ways) (C := RX3) (T := TX3) (N := 2) hx hb hts in_X3_willing_X3 hown hK hP 0 rfl rfl 1 (by decide) (hts (.fieldLink RX3 21 "LightKeepers$Shore" "ways" "LLightKeepers$Ways;") (List.mem_of_getElem? (i := 3) rfl)) (fun _ h9 => h9) rfl dX3_willing_38 ?_
      refine lv_iload_n hx hb dX3_willing_41 rfl (lv_at hl 2 rfl) ?_
      refine lv_iload_n hx hb dX3_willing_42 rfl (lv_at hl 4 rfl) ?_
      refine lv_iconst (v := 1) hx hb dX3_willing_43 (by decide) ?_
      refine lv_iadd hx hb dX3_willing_44 ?_
      obtain ⟨u4, hu4, hres⟩ := bd hres
      refine k_i C0 (run_V (As := [.int x1, .int (x3 + 1)]) (rest := [.int u3]) C0 (c_X5_who l g (q_this := q_ways) (q_keepers := q_ways_keepers) (q_changed := q_ways_changed) (q_row := q_ways_row) (v_rocks := v_ways_rocks) (v_many := v_ways_many) (f_keepers := f_ways_keepers) (x1 := x1) (x2 := (x3 + 1)) (u0 := u4) hu4 _) 2 gX3_willing_X5_who rfl rfl rfl hd_X5_who ⟨Nat.le_of_ble_eq_true rfl, Nat.le_of_ble_eq_true rfl⟩ hP hD hS [1, 2] rfl rfl 1 5 rfl rfl rfl hl.1 rfl (Nat.le_of_ble_eq_true rfl) ⟨Nat.zero_le _, Nat.zero_le _⟩ dX3_willing_45) hP hD hS [1, 2] [0, 3, 4] rfl rfl rfl (by decide) (fun H locs hP hD hS => ?_)
      have hP : va_P g.1 vwCl [(q_this, .inr (3, [.ref q_told, .ref q_ways])), (q_told, .inr (4, [.int v_told_keepers, .int v_told_hates, .int v_told_sight, .int v_told_sightTold, .ref q_told_flashes, .ref q_told_haters])), (q_told_haters, .inl (g.2.1, 6, .inl f_told_haters)), (q_ways, .inr (5, [.int v_ways_rocks, .int v_ways_many, .ref q_ways_keepers, .ref q_ways_changed, .ref q_ways_row])), (q_ways_keepers, .inl (g.2.1, 4320, .inl f_ways_keepers))] H := hP
      have hD : va_D A [(q_this, .inr (3, [.ref q_told, .ref q_ways])), (q_told, .inr (4, [.int v_told_keepers, .int v_told_hates, .int v_told_sight, .int v_told_sightTold, .ref q_told_flashes, .ref q_told_haters])), (q_told_haters, .inl (g.2.1, 6, .inl f_told_haters)), (q_ways, .inr (5, [.int v_ways_rocks, .int v_ways_many, .ref q_ways_keepers, .ref q_ways_changed, .ref q_ways_row])), (q_ways_keepers, .inl (g.2.1, 4320, .inl f_ways_keepers))] := hD
      refine lv_ishr hx hb dX3_willing_48 ?_
      refine lv_iconst (v := 1) hx hb dX3_willing_49 (by decide) ?_
      refine lv_iand hx hb dX3_willing_50 ?_
      refine lv_if_ne (tgt := 60) hx hb dX3_willing_51 (by decide) (fun c5 => ?_) (fun c5 => ?_)
      · have hres := it_f hres c5
        refine lv_iinc (v := (x3 + 1)) (lv' := [(3, .int (x3 + 1)), (4, .int u3), (0, .ref q_this), (1, .int x1), (2, .int x2)]) hx hb dX3_willing_60 hl (k := 4) rfl rfl (by decide) rfl (fun ls hl => ?_)
        refine lv_goto (tgt := 4) hx hb dX3_willing_63 (by decide) ?_
        have hP : va_P g.1 vwCl [(q_this, .inr (3, [.ref q_told, .ref q_ways])), (q_told, .inr (4, [.int v_told_keepers, .int v_told_hates, .int v_told_sight, .int v_told_sightTold, .ref q_told_flashes, .ref q_told_haters])), (q_ways, .inr (5, [.int v_ways_rocks, .int v_ways_many, .ref q_ways_keepers, .ref q_ways_changed, .ref q_ways_row])), (q_ways_keepers, .inl (g.2.1, 4320, .inl f_ways_keepers)), (q_told_haters, .inl (g.2.1, 6, .inl f_told_haters))] H := hP.sub [0, 1, 3, 4, 2] rfl
        have hD : va_D A [(q_this, .inr (3, [.ref q_told, .ref q_ways])), (q_told, .inr (4, [.int v_told_keepers, .int v_told_hates, .int v_told_sight, .int v_told_sightTold, .ref q_told_flashes, .ref q_told_haters])), (q_ways, .inr (5, [.int v_ways_rocks, .int v_ways_many, .ref q_ways_keepers, .ref q_ways_changed, .ref q_ways_row])), (q_ways_keepers, .inl (g.2.1, 4320, .inl f_ways_keepers)), (q_told_haters, .inl (g.2.1, 6, .inl f_told_haters))] := hD.sub [0, 1, 3, 4, 2] (by decide) rfl
        have hl : lv_has ls 5 [(0, .ref q_this), (1, .int x1), (2, .int x2), (3, .int (x3 + 1))] := lv_sub hl [2, 3, 4, 0] rfl
        exact ih hP hS hl hres
      · have hres := it_t hres c5
        refine lv_iload_n hx hb dX3_willing_54 rfl (lv_at hl 3 rfl) ?_
        refine lv_iconst (v := 1) hx hb dX3_willing_55 (by decide) ?_
        refine lv_iload_n hx hb dX3_willing_56 rfl (lv_at hl 4 rfl) ?_
        refine lv_ishl hx hb dX3_willing_57 ?_
        refine lv_ior hx hb dX3_willing_58 ?_
        refine lv_istore_n (lv' := [(2, .int (x2 ||| (1 <<< (x3 &&& 31)))), (4, .int u3), (0, .ref q_this), (1, .int x1), (3, .int x3)]) hx hb dX3_willing_59 rfl hl (by decide) rfl (fun ls hl => ?_)
        refine lv_iinc (v := (x3 + 1)) (lv' := [(3, .int (x3 + 1)), (2, .int (x2 ||| (1 <<< (x3 &&& 31)))), (4, .int u3), (0, .ref q_this), (1, .int x1)]) hx hb dX3_willing_60 hl (k := 4) rfl rfl (by decide) rfl (fun ls hl => ?_)
        refine lv_goto (tgt := 4) hx hb dX3_willing_63 (by decide) ?_
        have hP : va_P g.1 vwCl [(q_this, .inr (3, [.ref q_told, .ref q_ways])), (q_told, .inr (4, [.int v_told_keepers, .int v_told_hates, .int v_told_sight, .int v_told_sightTold, .ref q_told_flashes, .ref q_told_haters])), (q_ways, .inr (5, [.int v_ways_rocks, .int v_ways_many, .ref q_ways_keepers, .ref q_ways_changed, .ref q_ways_row])), (q_ways_keepers, .inl (g.2.1, 4320, .inl f_ways_keepers)), (q_told_haters, .inl (g.2.1, 6, .inl f_told_haters))] H := hP.sub [0, 1, 3, 4, 2] rfl
        have hD : va_D A [(q_this, .inr (3, [.ref q_told, .ref q_ways])), (q_told, .inr (4, [.int v_told_keepers, .int v_told_hates, .int v_told_sight, .int v_told_sightTold, .ref q_told_flashes, .ref q_told_haters])), (q_ways, .inr (5, [.int v_ways_rocks, .int v_ways_many, .ref q_ways_keepers, .ref q_ways_changed, .ref q_ways_row])), (q_ways_keepers, .inl (g.2.1, 4320, .inl f_ways_keepers)), (q_told_haters, .inl (g.2.1, 6, .inl f_told_haters))] := hD.sub [0, 1, 3, 4, 2] (by decide) rfl
        have hl : lv_has ls 5 [(0, .ref q_this), (1, .int x1), (2, .int (x2 ||| (1 <<< (x3 &&& 31)))), (3, .int (x3 + 1))] := lv_sub hl [3, 4, 1, 0] rfl
        exact ih hP hS hl hres
set_option maxHeartbeats 4000000 in
set_option maxRecDepth 100000 in
theorem c_X3_willing (l : Launch) (g : gG) {q_this q_told q_ways q_told_flashes q_told_haters q_ways_keepers q_ways_changed q_ways_row : Nat} {v_told_keepers : Int32} {v_told_hates : Int32} {v_told_sight : Int32} {v_told_sightTold : Int32} {v_ways_rocks : Int32} {v_ways_many : Int32} {f_ways_keepers : Nat → Int32} {f_told_haters : Nat → Int32} {x1 : Int32} {u0 : Int32} (hres : f_X3_willing v_told_keepers f_ways_keepers f_told_haters x1 = some u0) : Ci l g yX3_willing wsX3_willing rm_X3_willing [.ref q_this, .int x1] [(q_this, .inr (3, [.ref q_told, .ref q_ways])), (q_told, .inr (4, [.int v_told_keepers, .int v_told_hates, .int v_told_sight, .int v_told_sightTold, .ref q_told_flashes, .ref q_told_haters])), (q_ways, .inr (5, [.int v_ways_rocks, .int v_ways_many, .ref q_ways_keepers, .ref q_ways_changed, .ref q_ways_row])), (q_ways_keepers, .inl (g.2.1, 4320, .inl f_ways_keepers)), (q_told_haters, .inl (g.2.1, 6, .inl f_told_haters))] [(q_this, .inr (3, [.ref q_told, .ref q_ways])), (q_told, .inr (4, [.int v_told_keepers, .int v_told_hates, .int v_told_sight, .int v_told_sightTold, .ref q_told_flashes, .ref q_told_haters])), (q_ways, .inr (5, [.int v_ways_rocks, .int v_ways_many, .ref q_ways_keepers, .ref q_ways_changed, .ref q_ways_row])), (q_ways_keepers, .inl (g.2.1, 4320, .inl f_ways_keepers)), (q_told_haters, .inl (g.2.1, 6, .inl f_told_haters))] u0 := by
  intro sz
  refine gBody (Qf := fun A => gQi g [(q_this, .inr (3, [.ref q_told, .ref q_ways])), (q_told, .inr (4, [.int v_told_keepers, .int v_told_hates, .int v_told_sight, .int v_told_sightTold, .ref q_told_flashes, .ref q_told_haters])), (q_ways, .inr (5, [.int v_ways_rocks, .int v_ways_many, .ref q_ways_keepers, .ref q_ways_changed, .ref q_ways_row])), (q_ways_keepers, .inl (g.2.1, 4320, .inl f_ways_keepers)), (q_told_haters, .inl (g.2.1, 6, .inl f_told_haters))] u0 A) (cc := cX3_willing) (maxL := 5) (ret := (some .int)) (own := RX3) (by decide +kernel) rfl rfl (Nat.le_of_ble_eq_true rfl) ?_
  intro p e s m args below meth c A C0 H hS hD hP ls hl
  obtain ⟨hx, hb, hml, hown, hts, hr, hlk, hN, hK, hF, hA⟩ := id C0
  have hl : lv_has ls 5 [(0, .ref q_this), (1, .int x1)] := hl
  unfold f_X3_willing at hres
  refine lv_iconst (v := 0) hx hb dX3_willing_0 (by decide) ?_
  refine lv_istore_n (lv' := [(2, .int 0), (0, .ref q_this), (1, .int x1)]) hx hb dX3_willing_1 rfl hl (by decide) rfl (fun ls hl => ?_)
  refine lv_iconst (v := 0) hx hb dX3_willing_2 (by decide) ?_
  refine lv_istore_n (lv' := [(3, .int 0), (2, .int 0), (0, .ref q_this), (1, .int x1)]) hx hb dX3_willing_3 rfl hl (by decide) rfl (fun ls hl => ?_)
  have hl : lv_has ls 5 [(0, .ref q_this), (1, .int x1), (2, .int 0), (3, .int 0)] := lv_sub hl [2, 3, 1, 0] rfl
  refine w_X3_willing_L4 C0 hP hD hS hl hres (fun y6 y7 H locs ls hP hD hS hl hres => ?_)
  refine lv_iload_n hx hb dX3_willing_66 rfl (lv_at hl 2 rfl) ?_
  cases hres
  exact ret_i C0 hP hD hS dX3_willing_67
set_option maxHeartbeats 4000000 in
set_option maxRecDepth 100000 in
theorem w_X2_step_L23 {p : Program} {l : Launch} {e : Env} {s : State} {m : MethodId} {args : Array Value} {below : List Frame} {meth : Method} {c : Code} {g : gG} {A : Nat → Prop} {q_this q_shore q_moons q_firsts q_queue q_shore_told q_shore_ways q_shore_told_flashes q_shore_told_haters q_shore_ways_keepers q_shore_ways_changed q_shore_ways_row : Nat} {v_safe : Int32} {v_from : Int32} {v_shore_told_keepers : Int32} {v_shore_told_hates : Int32} {v_shore_told_sight : Int32} {v_shore_told_sightTold : Int32} {v_shore_ways_rocks : Int32} {v_shore_ways_many : Int32} {f_shore_ways_keepers : Nat → Int32} {f_shore_told_haters : Nat → Int32} {f_shore_ways_changed : Nat → Int32} {f_shore_told_flashes : Nat → Int32} {x1 : Int32} {x2 : Int32} {x3 : Int32} {u0 : Int32 × (Nat → Int32) × (Nat → Int32) × (Nat → Int32)} {k : Int32 → Int32 → (Nat → Int32) → (Nat → Int32) → (Nat → Int32) → Option (Int32 × (Nat → Int32) × (Nat → Int32) × (Nat → Int32))} {n : Nat} {x4 : Int32} {v_queued : Int32} {f_moons : Nat → Int32} {f_firsts : Nat → Int32} {f_queue : Nat → Int32} {H : Heap} {locs : List Loc} {ls : Array Slot} (C0 : Cx p s m args meth c RX2 cX2_step 6 wsX2_step none g A)
    (hP : va_P g.1 vwCl [(q_this, .inr (2, [.ref q_shore, .int v_safe, .ref q_moons, .ref q_firsts, .ref q_queue, .int v_queued, .int v_from])), (q_shore, .inr (3, [.ref q_shore_told, .ref q_shore_ways])), (q_shore_told, .inr (4, [.int v_shore_told_keepers, .int v_shore_told_hates, .int v_shore_told_sight, .int v_shore_told_sightTold, .ref q_shore_told_flashes, .ref q_shore_told_haters])), (q_shore_ways, .inr (5, [.int v_shore_ways_rocks, .int v_shore_ways_many, .ref q_shore_ways_keepers, .ref q_shore_ways_changed, .ref q_shore_ways_row])), (q_shore_ways_keepers, .inl (g.2.1, 4320, .inl f_shore_ways_keepers)), (q_shore_told_haters, .inl (g.2.1, 6, .inl f_shore_told_haters)), (q_moons, .inl (g.2.1, 720, .inl f_moons)), (q_shore_ways_changed, .inl (g.2.1, 3600, .inl f_shore_ways_changed)), (q_shore_told_flashes, .inl (g.2.1, 6, .inl f_shore_told_flashes)), (q_firsts, .inl (g.2.1, 720, .inl f_firsts)), (q_queue, .inl (g.2.1, 720, .inl f_queue))] H) (hD : va_D A [(q_this, .inr (2, [.ref q_shore, .int v_safe, .ref q_moons, .ref q_firsts, .ref q_queue, .int v_queued, .int v_from])), (q_shore, .inr (3, [.ref q_shore_told, .ref q_shore_ways])), (q_shore_told, .inr (4, [.int v_shore_told_keepers, .int v_shore_told_hates, .int v_shore_told_sight, .int v_shore_told_sightTold, .ref q_shore_told_flashes, .ref q_shore_told_haters])), (q_shore_ways, .inr (5, [.int v_shore_ways_rocks, .int v_shore_ways_many, .ref q_shore_ways_keepers, .ref q_shore_ways_changed, .ref q_shore_ways_row])), (q_shore_ways_keepers, .inl (g.2.1, 4320, .inl f_shore_ways_keepers)), (q_shore_told_haters, .inl (g.2.1, 6, .inl f_shore_told_haters)), (q_moons, .inl (g.2.1, 720, .inl f_moons)), (q_shore_ways_changed, .inl (g.2.1, 3600, .inl f_shore_ways_changed)), (q_shore_told_flashes, .inl (g.2.1, 6, .inl f_shore_told_flashes)), (q_firsts, .inl (g.2.1, 720, .inl f_firsts)), (q_queue, .inl (g.2.1, 720, .inl f_queue))]) (hS : va_S A s.heap H locs) (hl : lv_has ls 6 [(0, .ref q_this), (1, .int x1), (2, .int x2), (3, .int x3), (4, .int x4)]) (hres : lp_X2_step_L23 v_safe v_shore_told_keepers v_shore_told_sight f_shore_ways_keepers f_shore_ways_changed f_shore_told_flashes x1 x2 x3 k n x4 v_queued f_moons f_firsts f_queue = some u0)
    (K : ∀ (x4 : Int32) (v_queued : Int32) (f_moons : Nat → Int32) (f_firsts : Nat → Int32) (f_queue : Nat → Int32) (H : Heap) (locs : List Loc) (ls : Array Slot), va_P g.1 vwCl [(q_this, .inr (2, [.ref q_shore, .int v_safe, .ref q_moons, .ref q_firsts, .ref q_queue, .int v_queued, .int v_from])), (q_shore, .inr (3, [.ref q_shore_told, .ref q_shore_ways])), (q_shore_told, .inr (4, [.int v_shore_told_keepers, .int v_shore_told_hates, .int v_shore_told_sight, .int v_shore_told_sightTold, .ref q_shore_told_flashes, .ref q_shore_told_haters])), (q_shore_ways, .inr (5, [.int v_shore_ways_rocks, .int v_shore_ways_many, .ref q_shore_ways_keepers, .ref q_shore_ways_changed, .ref q_shore_ways_row])), (q_shore_ways_keepers, .inl (g.2.1, 4320, .inl f_shore_ways_keepers)), (q_shore_told_haters, .inl (g.2.1, 6, .inl f_shore_told_haters)), (q_moons, .inl (g.2.1, 720, .inl f_moons)), (q_shore_ways_changed, .inl (g.2.1, 3600, .inl f_shore_ways_changed)), (q_shore_told_flashes, .inl (g.2.1, 6, .inl f_shore_told_flashes)), (q_firsts, .inl (g.2.1, 720, .inl f_firsts)), (q_queue, .inl (g.2.1, 720, .inl f_queue))] H → va_D A [(q_this, .inr (2, [.ref q_shore, .int v_safe, .ref q_moons, .ref q_firsts, .ref q_queue, .int v_queued, .int v_from])), (q_shore, .inr (3, [.ref q_shore_told, .ref q_shore_ways])), (q_shore_told, .inr (4, [.int v_shore_told_keepers, .int v_shore_told_hates, .int v_shore_told_sight, .int v_shore_told_sightTold, .ref q_shore_told_flashes, .ref q_shore_told_haters])), (q_shore_ways, .inr (5, [.int v_shore_ways_rocks, .int v_shore_ways_many, .ref q_shore_ways_keepers, .ref q_shore_ways_changed, .ref q_shore_ways_row])), (q_shore_ways_keepers, .inl (g.2.1, 4320, .inl f_shore_ways_keepers)), (q_shore_told_haters, .inl (g.2.1, 6, .inl f_shore_told_haters)), (q_moons, .inl (g.2.1, 720, .inl f_moons)), (q_shore_ways_changed, .inl (g.2.1, 3600, .inl f_shore_ways_changed)), (q_shore_told_flashes, .inl (g.2.1, 6, .inl f_shore_told_flashes)), (q_firsts, .inl (g.2.1, 720, .inl f_firsts)), (q_queue, .inl (g.2.1, 720, .inl f_queue))] → va_S A s.heap H locs → lv_has ls 6 [(0, .ref q_this), (1, .int x1), (2, .int x2), (3, .int x3), (4, .int x4)] → k x4 v_queued f_moons f_firsts f_queue = some u0 → W p l e rm_X2_step s m args below meth c H locs 0 0 (MQ below (gQv g [(q_this, .inr (2, [.ref q_shore, .int v_safe, .ref q_moons, .ref q_firsts, .ref q_queue, .int u0.1, .int v_from])), (q_shore, .inr (3, [.ref q_shore_told, .ref q_shore_ways])), (q_shore_told, .inr (4, [.int v_shore_told_keepers, .int v_shore_told_hates, .int v_shore_told_sight, .int v_shore_told_sightTold, .ref q_shore_told_flashes, .ref q_shore_told_haters])), (q_shore_ways, .inr (5, [.int v_shore_ways_rocks, .int v_shore_ways_many, .ref q_shore_ways_keepers, .ref q_shore_ways_changed, .ref q_shore_ways_row])), (q_shore_ways_keepers, .inl (g.2.1, 4320, .inl f_shore_ways_keepers)), (q_shore_told_haters, .inl (g.2.1, 6, .inl f_shore_told_haters)), (q_moons, .inl (g.2.1, 720, .inl u0.2.1)), (q_shore_ways_changed, .inl (g.2.1, 3600, .inl f_shore_ways_changed)), (q_shore_told_flashes, .inl (g.2.1, 6, .inl f_shore_told_flashes)), (q_firsts, .inl (g.2.1, 720, .inl u0.2.2.1)), (q_queue, .inl (g.2.1, 720, .inl u0.2.2.2))] A) args s 0 0 A) (F0 m 87 ls [])) :
    W p l e rm_X2_step s m args below meth c H locs 0 0 (MQ below (gQv g [(q_this, .inr (2, [.ref q_shore, .int v_safe, .ref q_moons, .ref q_firsts, .ref q_queue, .int u0.1, .int v_from])), (q_shore, .inr (3, [.ref q_shore_told, .ref q_shore_ways])), (q_shore_told, .inr (4, [.int v_shore_told_keepers, .int v_shore_told_hates, .int v_shore_told_sight, .int v_shore_told_sightTold, .ref q_shore_told_flashes, .ref q_shore_told_haters])), (q_shore_ways, .inr (5, [.int v_shore_ways_rocks, .int v_shore_ways_many, .ref q_shore_ways_keepers, .ref q_shore_ways_changed, .ref q_shore_ways_row])), (q_shore_ways_keepers, .inl (g.2.1, 4320, .inl f_shore_ways_keepers)), (q_shore_told_haters, .inl (g.2.1, 6, .inl f_shore_told_haters)), (q_moons, .inl (g.2.1, 720, .inl u0.2.1)), (q_shore_ways_changed, .inl (g.2.1, 3600, .inl f_shore_ways_changed)), (q_shore_told_flashes, .inl (g.2.1, 6, .inl f_shore_told_flashes)), (q_firsts, .inl (g.2.1, 720, .inl u0.2.2.1)), (q_queue, .inl (g.2.1, 720, .inl u0.2.2.2))] A) args s 0 0 A) (F0 m 23 ls []) := by
  obtain ⟨hx, hb, hml, hown, hts, hr, hlk, hN, hK, hF, hA⟩ := id C0
  induction n generalizing x4 v_queued f_moons f_firsts f_queue H locs ls with
  | zero => cases hres
  | succ n ih =>
    unfold lp_X2_step_L23 at hres
    refine lv_iload hx hb dX2_step_23 (lv_at hl 4 rfl) ?_
    refine lv_aload_n hx hb dX2_step_25 rfl (lv_at hl 0 rfl) ?_
    refine va_get (D := g.1) (ci := 2) (v := .ref q_shore) (C := RX2) (T := TX2) (N := 7) hx hb hts in_X2_step_X2 hown hK hP 0 rfl rfl 0 (by decide) (hts (.fieldLink RX2 25 "LightKeepers$Search" "shore" "LLightKeepers$Shore;") (List.mem_of_getElem? (i := 1) rfl)) (fun _ h9 => h9) rfl dX2_step_26 ?_
    obtain ⟨u3, hu3, hres⟩ := bd hres
    refine k_i C0 (run_V (As := []) (rest := [.int x4]) C0 (c_X3_changes l g (q_this := q_shore) (q_told := q_shore_told) (q_ways := q_shore_ways) (q_told_flashes := q_shore_told_flashes) (q_told_haters := q_shore_told_haters) (v_told_keepers := v_shore_told_keepers) (v_told_hates := v_shore_told_hates) (v_told_sight := v_shore_told_sight) (v_told_sightTold := v_shore_told_sightTold) (u0 := u3) hu3 _) 0 gX2_step_X3_changes rfl rfl rfl hd_X3_changes ⟨Nat.le_of_ble_eq_true rfl, Nat.le_of_ble_eq_true rfl⟩ hP hD hS [1, 2] rfl rfl 1 3 rfl rfl rfl hl.1 rfl (Nat.le_of_ble_eq_true rfl) ⟨Nat.zero_le _, Nat.zero_le _⟩ dX2_step_29) hP hD hS [1, 2] [0, 3, 4, 5, 6, 7, 8, 9, 10] rfl rfl rfl (by decide) (fun H locs hP hD hS => ?_)
    have hP : va_P g.1 vwCl [(q_this, .inr (2, [.ref q_shore, .int v_safe, .ref q_moons, .ref q_firsts, .ref q_queue, .int v_queued, .int v_from])), (q_shore_ways, .inr (5, [.int v_shore_ways_rocks, .int v_shore_ways_many, .ref q_shore_ways_keepers, .ref q_shore_ways_changed, .ref q_shore_ways_row])), (q_shore_ways_keepers, .inl (g.2.1, 4320, .inl f_shore_ways_keepers)), (q_shore_told_haters, .inl (g.2.1, 6, .inl f_shore_told_haters)), (q_moons, .inl (g.2.1, 720, .inl f_moons)), (q_shore_ways_changed, .inl (g.2.1, 3600, .inl f_shore_ways_changed)), (q_shore_told_flashes, .inl (g.2.1, 6, .inl f_shore_told_flashes)), (q_firsts, .inl (g.2.1, 720, .inl f_firsts)), (q_queue, .inl (g.2.1, 720, .inl f_queue)), (q_shore, .inr (3, [.ref q_shore_told, .ref q_shore_ways])), (q_shore_told, .inr (4, [.int v_shore_told_keepers, .int v_shore_told_hates, .int v_shore_told_sight, .int v_shore_told_sightTold, .ref q_shore_told_flashes, .ref q_shore_told_haters]))] H := hP
    have hD : va_D A [(q_this, .inr (2, [.ref q_shore, .int v_safe, .ref q_moons, .ref q_firsts, .ref q_queue, .int v_queued, .int v_from])), (q_shore_ways, .inr (5, [.int v_shore_ways_rocks, .int v_shore_ways_many, .ref q_shore_ways_keepers, .ref q_shore_ways_changed, .ref q_shore_ways_row])), (q_shore_ways_keepers, .inl (g.2.1, 4320, .inl f_shore_ways_keepers)), (q_shore_told_haters, .inl (g.2.1, 6, .inl f_shore_told_haters)), (q_moons, .inl (g.2.1, 720, .inl f_moons)), (q_shore_ways_changed, .inl (g.2.1, 3600, .inl f_shore_ways_changed)), (q_shore_told_flashes, .inl (g.2.1, 6, .inl f_shore_told_flashes)), (q_firsts, .inl (g.2.1, 720, .inl f_firsts)), (q_queue, .inl (g.2.1, 720, .inl f_queue)), (q_shore, .inr (3, [.ref q_shore_told, .ref q_shore_ways])), (q_shore_told, .inr (4, [.int v_shore_told_keepers, .int v_shore_told_hates, .int v_shore_told_sight, .int v_shore_told_sightTold, .ref q_shore_told_flashes, .ref q_shore_told_haters]))] := hD
    refine lv_icmp_ge (tgt := 87) hx hb dX2_step_32 (by decide) (fun c4 => ?_) (fun c4 => ?_)
    · have hres := it_t hres c4
      have hP : va_P g.1 vwCl [(q_this, .inr (2, [.ref q_shore, .int v_safe, .ref q_moons, .ref q_firsts, .ref q_queue, .int v_queued, .int v_from])), (q_shore, .inr (3, [.ref q_shore_told, .ref q_shore_ways])), (q_shore_told, .inr (4, [.int v_shore_told_keepers, .int v_shore_told_hates, .int v_shore_told_sight, .int v_shore_told_sightTold, .ref q_shore_told_flashes, .ref q_shore_told_haters])), (q_shore_ways, .inr (5, [.int v_shore_ways_rocks, .int v_shore_ways_many, .ref q_shore_ways_keepers, .ref q_shore_ways_changed, .ref q_shore_ways_row])), (q_shore_ways_keepers, .inl (g.2.1, 4320, .inl f_shore_ways_keepers)), (q_shore_told_haters, .inl (g.2.1, 6, .inl f_shore_told_haters)), (q_moons, .inl (g.2.1, 720, .inl f_moons)), (q_shore_ways_changed, .inl (g.2.1, 3600, .inl f_shore_ways_changed)), (q_shore_told_flashes, .inl (g.2.1, 6, .inl f_shore_told_flashes)), (q_firsts, .inl (g.2.1, 720, .inl f_firsts)), (q_queue, .inl (g.2.1, 720, .inl f_queue))] H := hP.sub [0, 9, 10, 1, 2, 3, 4, 5, 6, 7, 8] rfl
      have hD : va_D A [(q_this, .inr (2, [.ref q_shore, .int v_safe, .ref q_moons, .ref q_firsts, .ref q_queue, .int v_queued, .int v_from])), (q_shore, .inr (3, [.ref q_shore_told, .ref q_shore_ways])), (q_shore_told, .inr (4, [.int v_shore_told_keepers, .int v_shore_told_hates, .int v_shore_told_sight, .int v_shore_told_sightTold, .ref q_shore_told_flashes, .ref q_shore_told_haters])), (q_shore_ways, .inr (5, [.int v_shore_ways_rocks, .int v_shore_ways_many, .ref q_shore_ways_keepers, .ref q_shore_ways_changed, .ref q_shore_ways_row])), (q_shore_ways_keepers, .inl (g.2.1, 4320, .inl f_shore_ways_keepers)), (q_shore_told_haters, .inl (g.2.1, 6, .inl f_shore_told_haters)), (q_moons, .inl (g.2.1, 720, .inl f_moons)), (q_shore_ways_changed, .inl (g.2.1, 3600, .inl f_shore_ways_changed)), (q_shore_told_flashes, .inl (g.2.1, 6, .inl f_shore_told_flashes)), (q_firsts, .inl (g.2.1, 720, .inl f_firsts)), (q_queue, .inl (g.2.1, 720, .inl f_queue))] := hD.sub [0, 9, 10, 1, 2, 3, 4, 5, 6, 7, 8] (by decide) rfl
      exact K _ _ _ _ _ _ _ _ hP hD hS hl hres
    · have hres := it_f hres c4
      refine lv_iload_n hx hb dX2_step_35 rfl (lv_at hl 2 rfl) ?_
      refine lv_iload hx hb dX2_step_36 (lv_at hl 4 rfl) ?_
      obtain ⟨u5, hu5, hres⟩ := bd hres
      refine k_i C0 (run_S (As := [.int x2, .int x4]) (rest := []) C0 (c_X3_allows l g (x0 := x2) (x1 := x4) (u0 := u5) hu5 _) 2 gX2_step_X3_allows rfl rfl rfl hd_X3_allows ⟨Nat.le_of_ble_eq_true rfl, Nat.le_of_ble_eq_true rfl⟩ hP hD hS [] rfl rfl rfl hl.1 rfl (Nat.le_of_ble_eq_true rfl) ⟨Nat.zero_le _, Nat.zero_le _⟩ dX2_step_38) hP hD hS [] [0, 1, 2, 3, 4, 5, 6, 7, 8, 9, 10] rfl rfl rfl (by decide) (fun H locs hP hD hS => ?_)
      have hP : va_P g.1 vwCl [(q_this, .inr (2, [.ref q_shore, .int v_safe, .ref q_moons, .ref q_firsts, .ref q_queue, .int v_queued, .int v_from])), (q_shore_ways, .inr (5, [.int v_shore_ways_rocks, .int v_shore_ways_many, .ref q_shore_ways_keepers, .ref q_shore_ways_changed, .ref q_shore_ways_row])), (q_shore_ways_keepers, .inl (g.2.1, 4320, .inl f_shore_ways_keepers)), (q_shore_told_haters, .inl (g.2.1, 6, .inl f_shore_told_haters)), (q_moons, .inl (g.2.1, 720, .inl f_moons)), (q_shore_ways_changed, .inl (g.2.1, 3600, .inl f_shore_ways_changed)), (q_shore_told_flashes, .inl (g.2.1, 6, .inl f_shore_told_flashes)), (q_firsts, .inl (g.2.1, 720, .inl f_firsts)), (q_queue, .inl (g.2.1, 720, .inl f_queue)), (q_shore, .inr (3, [.ref q_shore_told, .ref q_shore_ways])), (q_shore_told, .inr (4, [.int v_shore_told_keepers, .int v_shore_told_hates, .int v_shore_told_sight, .int v_shore_told_sightTold, .ref q_shore_told_flashes, .ref q_shore_told_haters]))] H := hP
      have hD : va_D A [(q_this, .inr (2, [.ref q_shore, .int v_safe, .ref q_moons, .ref q_firsts, .ref q_queue, .int v_queued, .int v_from])), (q_shore_ways, .inr (5, [.int v_shore_ways_rocks, .int v_shore_ways_many, .ref q_shore_ways_keepers, .ref q_shore_ways_changed, .ref q_shore_ways_row])), (q_shore_ways_keepers, .inl (g.2.1, 4320, .inl f_shore_ways_keepers)), (q_shore_told_haters, .inl (g.2.1, 6, .inl f_shore_told_haters)), (q_moons, .inl (g.2.1, 720, .inl f_moons)), (q_shore_ways_changed, .inl (g.2.1, 3600, .inl f_shore_ways_changed)), (q_shore_told_flashes, .inl (g.2.1, 6, .inl f_shore_told_flashes)), (q_firsts, .inl (g.2.1, 720, .inl f_firsts)), (q_queue, .inl (g.2.1, 720, .inl f_queue)), (q_shore, .inr (3, [.ref q_shore_told, .ref q_shore_ways])), (q_shore_told, .inr (4, [.int v_shore_told_keepers, .int v_shore_told_hates, .int v_shore_told_sight, .int v_shore_told_sightTold, .ref q_shore_told_flashes, .ref q_shore_told_haters]))] := hD
      refine lv_if_eq (tgt := 81) hx hb dX2_step_41 (by decide) (fun c6 => ?_) (fun c6 => ?_)
      · have hres := it_t hres c6
        refine lv_iinc (v := (x4 + 1)) (lv' := [(4, .int (x4 + 1)), (0, .ref q_this), (1, .int x1), (2, .int x2), (3, .int x3)]) hx hb dX2_step_81 hl (k := 4) rfl rfl (by decide) rfl (fun ls hl => ?_)
        refine lv_goto (tgt := 23) hx hb dX2_step_84 (by decide) ?_
        have hP : va_P g.1 vwCl [(q_this, .inr (2, [.ref q_shore, .int v_safe, .ref q_moons, .ref q_firsts, .ref q_queue, .int v_queued, .int v_from])), (q_shore, .inr (3, [.ref q_shore_told, .ref q_shore_ways])), (q_shore_told, .inr (4, [.int v_shore_told_keepers, .int v_shore_told_hates, .int v_shore_told_sight, .int v_shore_told_sightTold, .ref q_shore_told_flashes, .ref q_shore_told_haters])), (q_shore_ways, .inr (5, [.int v_shore_ways_rocks, .int v_shore_ways_many, .ref q_shore_ways_keepers, .ref q_shore_ways_changed, .ref q_shore_ways_row])), (q_shore_ways_keepers, .inl (g.2.1, 4320, .inl f_shore_ways_keepers)), (q_shore_told_haters, .inl (g.2.1, 6, .inl f_shore_told_haters)), (q_moons, .inl (g.2.1, 720, .inl f_moons)), (q_shore_ways_changed, .inl (g.2.1, 3600, .inl f_shore_ways_changed)), (q_shore_told_flashes, .inl (g.2.1, 6, .inl f_shore_told_flashes)), (q_firsts, .inl (g.2.1, 720, .inl f_firsts)), (q_queue, .inl (g.2.1, 720, .inl f_queue))] H := hP.sub [0, 9, 10, 1, 2, 3, 4, 5, 6, 7, 8] rfl
        have hD : va_D A [(q_this, .inr (2, [.ref q_shore, .int v_safe, .ref q_moons, .ref q_firsts, .ref q_queue, .int v_queued, .int v_from])), (q_shore, .inr (3, [.ref q_shore_told, .ref q_shore_ways])), (q_shore_told, .inr (4, [.int v_shore_told_keepers, .int v_shore_told_hates, .int v_shore_told_sight, .int v_shore_told_sightTold, .ref q_shore_told_flashes, .ref q_shore_told_haters])), (q_shore_ways, .inr (5, [.int v_shore_ways_rocks, .int v_shore_ways_many, .ref q_shore_ways_keepers, .ref q_shore_ways_changed, .ref q_shore_ways_row])), (q_shore_ways_keepers, .inl (g.2.1, 4320, .inl f_shore_ways_keepers)), (q_shore_told_haters, .inl (g.2.1, 6, .inl f_shore_told_haters)), (q_moons, .inl (g.2.1, 720, .inl f_moons)), (q_shore_ways_changed, .inl (g.2.1, 3600, .inl f_shore_ways_changed)), (q_shore_told_flashes, .inl (g.2.1, 6, .inl f_shore_told_flashes)), (q_firsts, .inl (g.2.1, 720, .inl f_firsts)), (q_queue, .inl (g.2.1, 720, .inl f_queue))] := hD.sub [0, 9, 10, 1, 2, 3, 4, 5, 6, 7, 8] (by decide) rfl
        have hl : lv_has ls 6 [(0, .ref q_this), (1, .int x1), (2, .int x2), (3, .int x3), (4, .int (x4 + 1))] := lv_sub hl [1, 2, 3, 4, 0] rfl
        exact ih hP hD hS hl hres
      · have hres := it_f hres c6
        refine lv_iload_n hx hb dX2_step_44 rfl (lv_at hl 3 rfl) ?_
        refine lv_iconst (v := 1) hx hb dX2_step_45 (by decide) ?_
        refine lv_icmp_ne (tgt := 54) hx hb dX2_step_46 (by decide) (fun c7 => ?_) (fun c7 => ?_)
        · have hres := it_f hres c7
          refine lv_aload_n hx hb dX2_step_54 rfl (lv_at hl 0 rfl) ?_
          refine va_get (D := g.1) (ci := 2) (v := .ref q_firsts) (C := RX2) (T := TX2) (N := 7) hx hb hts in_X2_step_X2 hown hK hP 0 rfl rfl 3 (by decide) (hts (.fieldLink RX2 15 "LightKeepers$Search" "firsts" "[I") (List.mem_of_getElem? (i := 3) rfl)) (fun _ h9 => h9) rfl dX2_step_55 ?_
          refine lv_iload_n hx hb dX2_step_58 rfl (lv_at hl 1 rfl) ?_
          obtain ⟨u8, hu8, hres⟩ := bd hres
          refine k_i C0 (run_SN (As := [.ref q_firsts, .int x1]) (rest := []) C0 (c_X6_item l g (q_a0 := q_firsts) (n_a0 := 720) (f_a0 := f_firsts) (x1 := x1) (u0 := u8) hu8 _) 2 gX2_step_X6_item_n46 rfl rfl rfl (List.mem_of_getElem? (i := 8) rfl) (List.mem_of_getElem? (i := 24) rfl) (List.mem_of_getElem? (i := 25) rfl) hd_X6_item ⟨Nat.le_of_ble_eq_true rfl, Nat.le_of_ble_eq_true rfl⟩ hP hD hS [7] rfl rfl rfl hl.1 rfl (Nat.le_of_ble_eq_true rfl) ⟨Nat.zero_le _, Nat.zero_le _⟩ dX2_step_59) hP hD hS [7] [0, 1, 2, 3, 4, 5, 6, 8, 9, 10] rfl rfl rfl (by decide) (fun H locs hP hD hS => ?_)
          have hP : va_P g.1 vwCl [(q_this, .inr (2, [.ref q_shore, .int v_safe, .ref q_moons, .ref q_firsts, .ref q_queue, .int v_queued, .int v_from])), (q_shore_ways, .inr (5, [.int v_shore_ways_rocks, .int v_shore_ways_many, .ref q_shore_ways_keepers, .ref q_shore_ways_changed, .ref q_shore_ways_row])), (q_shore_ways_keepers, .inl (g.2.1, 4320, .inl f_shore_ways_keepers)), (q_shore_told_haters, .inl (g.2.1, 6, .inl f_shore_told_haters)), (q_moons, .inl (g.2.1, 720, .inl f_moons)), (q_shore_ways_changed, .inl (g.2.1, 3600, .inl f_shore_ways_changed)), (q_shore_told_flashes, .inl (g.2.1, 6, .inl f_shore_told_flashes)), (q_queue, .inl (g.2.1, 720, .inl f_queue)), (q_shore, .inr (3, [.ref q_shore_told, .ref q_shore_ways])), (q_shore_told, .inr (4, [.int v_shore_told_keepers, .int v_shore_told_hates, .int v_shore_told_sight, .int v_shore_told_sightTold, .ref q_shore_told_flashes, .ref q_shore_told_haters])), (q_firsts, .inl (g.2.1, 720, .inl f_firsts))] H := hP
          have hD : va_D A [(q_this, .inr (2, [.ref q_shore, .int v_safe, .ref q_moons, .ref q_firsts, .ref q_queue, .int v_queued, .int v_from])), (q_shore_ways, .inr (5, [.int v_shore_ways_rocks, .int v_shore_ways_many, .ref q_shore_ways_keepers, .ref q_shore_ways_changed, .ref q_shore_ways_row])), (q_shore_ways_keepers, .inl (g.2.1, 4320, .inl f_shore_ways_keepers)), (q_shore_told_haters, .inl (g.2.1, 6, .inl f_shore_told_haters)), (q_moons, .inl (g.2.1, 720, .inl f_moons)), (q_shore_ways_changed, .inl (g.2.1, 3600, .inl f_shore_ways_changed)), (q_shore_told_flashes, .inl (g.2.1, 6, .inl f_shore_told_flashes)), (q_queue, .inl (g.2.1, 720, .inl f_queue)), (q_shore, .inr (3, [.ref q_shore_told, .ref q_shore_ways])), (q_shore_told, .inr (4, [.int v_shore_told_keepers, .int v_shore_told_hates, .int v_shore_told_sight, .int v_shore_told_sightTold, .ref q_shore_told_flashes, .ref q_shore_told_haters])), (q_firsts, .inl (g.2.1, 720, .inl f_firsts))] := hD
          refine lv_istore (lv' := [(5, .int u8), (0, .ref q_this), (1, .int x1), (2, .int x2), (3, .int x3), (4, .int x4)]) hx hb dX2_step_62 hl (by decide) rfl (fun ls hl => ?_)
          refine lv_aload_n hx hb dX2_step_64 rfl (lv_at hl 1 rfl) ?_
          refine lv_aload_n hx hb dX2_step_65 rfl (lv_at hl 1 rfl) ?_
          refine va_get (D := g.1) (ci := 2) (v := .ref q_shore) (C := RX2) (T := TX2) (N := 7) hx hb hts in_X2_step_X2 hown hK hP 0 rfl rfl 0 (by decide) (hts (.fieldLink RX2 25 "LightKeepers$Search" "shore" "LLightKeepers$Shore;") (List.mem_of_getElem? (i := 1) rfl)) (fun _ h9 => h9) rfl dX2_step_66 ?_
          refine lv_iload_n hx hb dX2_step_69 rfl (lv_at hl 2 rfl) ?_
          refine lv_iload hx hb dX2_step_70 (lv_at hl 5 rfl) ?_
          obtain ⟨u9, hu9, hres⟩ := bd hres
          refine k_i C0 (run_V (As := [.int x1, .int x4]) (rest := [.ref q_this]) C0 (c_X3_after l g (q_this := q_shore) (q_told := q_shore_told) (q_ways := q_shore_ways) (q_ways_keepers := q_shore_ways_keepers) (q_ways_changed := q_shore_ways_changed) (q_ways_row := q_shore_ways_row) (v_ways_rocks := v_shore_ways_rocks) (v_ways_many := v_shore_ways_many) (f_ways_changed := f_shore_ways_changed) (x1 := x1) (x2 := x4) (u0 := u9) hu9 _) 2 gX2_step_X3_after rfl rfl rfl hd_X3_after ⟨Nat.le_of_ble_eq_true rfl, Nat.le_of_ble_eq_true rfl⟩ hP hD hS [8, 1, 5] rfl rfl 8 3 rfl rfl rfl hl.1 rfl (Nat.le_of_ble_eq_true rfl) ⟨Nat.zero_le _, Nat.zero_le _⟩ dX2_step_72) hP hD hS [8, 1, 5] [0, 2, 3, 4, 6, 7, 9, 10] rfl rfl rfl (by decide) (fun H locs hP hD hS => ?_)
          have hP : va_P g.1 vwCl [(q_this, .inr (2, [.ref q_shore, .int v_safe, .ref q_moons, .ref q_firsts, .ref q_queue, .int v_queued, .int v_from])), (q_shore_ways_keepers, .inl (g.2.1, 4320, .inl f_shore_ways_keepers)), (q_shore_told_haters, .inl (g.2.1, 6, .inl f_shore_told_haters)), (q_moons, .inl (g.2.1, 720, .inl f_moons)), (q_shore_told_flashes, .inl (g.2.1, 6, .inl f_shore_told_flashes)), (q_queue, .inl (g.2.1, 720, .inl f_queue)), (q_shore_told, .inr (4, [.int v_shore_told_keepers, .int v_shore_told_hates, .int v_shore_told_sight, .int v_shore_told_sightTold, .ref q_shore_told_flashes, .ref q_shore_told_haters])), (q_firsts, .inl (g.2.1, 720, .inl f_firsts)), (q_shore, .inr (3, [.ref q_shore_told, .ref q_shore_ways])), (q_shore_ways, .inr (5, [.int v_shore_ways_rocks, .int v_shore_ways_many, .ref q_shore_ways_keepers, .ref q_shore_ways_changed, .ref q_shore_ways_row])), (q_shore_ways_changed, .inl (g.2.1, 3600, .inl f_shore_ways_changed))] H := hP
          have hD : va_D A [(q_this, .inr (2, [.ref q_shore, .int v_safe, .ref q_moons, .ref q_firsts, .ref q_queue, .int v_queued, .int v_from])), (q_shore_ways_keepers, .inl (g.2.1, 4320, .inl f_shore_ways_keepers)), (q_shore_told_haters, .inl (g.2.1, 6, .inl f_shore_told_haters)), (q_moons, .inl (g.2.1, 720, .inl f_moons)), (q_shore_told_flashes, .inl (g.2.1, 6, .inl f_shore_told_flashes)), (q_queue, .inl (g.2.1, 720, .inl f_queue)), (q_shore_told, .inr (4, [.int v_shore_told_keepers, .int v_shore_told_hates, .int v_shore_told_sight, .int v_shore_told_sightTold, .ref q_shore_told_flashes, .ref q_shore_told_haters])), (q_firsts, .inl (g.2.1, 720, .inl f_firsts)), (q_shore, .inr (3, [.ref q_shore_told, .ref q_shore_ways])), (q_shore_ways, .inr (5, [.int v_shore_ways_rocks, .int v_shore_ways_many, .ref q_shore_ways_keepers, .ref q_shore_ways_changed, .ref q_shore_ways_row])), (q_shore_ways_changed, .inl (g.2.1, 3600, .inl f_shore_ways_changed))] := hD
          refine lv_iload_n hx hb dX2_step_75 rfl (lv_at hl 4 rfl) ?_
          refine lv_iload hx hb dX2_step_76 (lv_at hl 0 rfl) ?_
          obtain ⟨u10, hu10, hres⟩ := bd hres
          refine k_v C0 (run_V (As := [.int u9, .int x3, .int u8]) (rest := []) C0 (c_X2_reach l g (q_this := q_this) (q_shore := q_shore) (q_moons := q_moons) (q_firsts := q_firsts) (q_queue := q_queue) (q_shore_told := q_shore_told) (q_shore_ways := q_shore_ways) (q_shore_told_flashes := q_shore_told_flashes) (q_shore_told_haters := q_shore_told_haters) (q_shore_ways_keepers := q_shore_ways_keepers) (q_shore_ways_changed := q_shore_ways_changed) (q_shore_ways_row := q_shore_ways_row) (v_safe := v_safe) (v_queued := v_queued) (v_from := v_from) (f_moons := f_moons) (v_shore_told_keepers := v_shore_told_keepers) (v_shore_told_hates := v_shore_told_hates) (v_shore_told_sight := v_shore_told_sight) (v_shore_told_sightTold := v_shore_told_sightTold) (v_shore_ways_rocks := v_shore_ways_rocks) (v_shore_ways_many := v_shore_ways_many) (f_shore_ways_keepers := f_shore_ways_keepers) (f_shore_told_flashes := f_shore_told_flashes) (f_firsts := f_firsts) (f_queue := f_queue) (x1 := u9) (x2 := x3) (x3 := u8) (u0 := u10) hu10 _) 3 gX2_step_X2_reach rfl rfl rfl hd_X2_reach ⟨Nat.le_of_ble_eq_true rfl, Nat.le_of_ble_eq_true rfl⟩ hP hD hS [0, 3, 8, 6, 9, 1, 4, 7, 5] rfl rfl 0 2 rfl rfl rfl hl.1 rfl (Nat.le_of_ble_eq_true rfl) ⟨Nat.zero_le _, Nat.zero_le _⟩ dX2_step_78) hP hD hS [0, 3, 8, 6, 9, 1, 4, 7, 5] [2, 10] rfl rfl rfl (by decide) (fun H locs hP hD hS => ?_)
          have hP : va_P g.1 vwCl [(q_shore_told_haters, .inl (g.2.1, 6, .inl f_shore_told_haters)), (q_shore_ways_changed, .inl (g.2.1, 3600, .inl f_shore_ways_changed)), (q_this, .inr (2, [.ref q_shore, .int v_safe, .ref q_moons, .ref q_firsts, .ref q_queue, .int u10.1, .int v_from])), (q_moons, .inl (g.2.1, 720, .inl u10.2.1)), (q_shore, .inr (3, [.ref q_shore_told, .ref q_shore_ways])), (q_shore_told, .inr (4, [.int v_shore_told_keepers, .int v_shore_told_hates, .int v_shore_told_sight, .int v_shore_told_sightTold, .ref q_shore_told_flashes, .ref q_shore_told_haters])), (q_shore_ways, .inr (5, [.int v_shore_ways_rocks, .int v_shore_ways_many, .ref q_shore_ways_keepers, .ref q_shore_ways_changed, .ref q_shore_ways_row])), (q_shore_ways_keepers, .inl (g.2.1, 4320, .inl f_shore_ways_keepers)), (q_shore_told_flashes, .inl (g.2.1, 6, .inl f_shore_told_flashes)), (q_firsts, .inl (g.2.1, 720, .inl u10.2.2.1)), (q_queue, .inl (g.2.1, 720, .inl u10.2.2.2))] H := hP
          have hD : va_D A [(q_shore_told_haters, .inl (g.2.1, 6, .inl f_shore_told_haters)), (q_shore_ways_changed, .inl (g.2.1, 3600, .inl f_shore_ways_changed)), (q_this, .inr (2, [.ref q_shore, .int v_safe, .ref q_moons, .ref q_firsts, .ref q_queue, .int u10.1, .int v_from])), (q_moons, .inl (g.2.1, 720, .inl u10.2.1)), (q_shore, .inr (3, [.ref q_shore_told, .ref q_shore_ways])), (q_shore_told, .inr (4, [.int v_shore_told_keepers, .int v_shore_told_hates, .int v_shore_told_sight, .int v_shore_told_sightTold, .ref q_shore_told_flashes, .ref q_shore_told_haters])), (q_shore_ways, .inr (5, [.int v_shore_ways_rocks, .int v_shore_ways_many, .ref q_shore_ways_keepers, .ref q_shore_ways_changed, .ref q_shore_ways_row])), (q_shore_ways_keepers, .inl (g.2.1, 4320, .inl f_shore_ways_keepers)), (q_shore_told_flashes, .inl (g.2.1, 6, .inl f_shore_told_flashes)), (q_firsts, .inl (g.2.1, 720, .inl u10.2.2.1)), (q_queue, .inl (g.2.1, 720, .inl u10.2.2.2))] := hD
          refine lv_iinc (v := (x4 + 1)) (lv' := [(4, .int (x4 + 1)), (5, .int u8), (0, .ref q_this), (1, .int x1), (2, .int x2), (3, .int x3)]) hx hb dX2_step_81 hl (k := 5) rfl rfl (by decide) rfl (fun ls hl => ?_)
          refine lv_goto (tgt := 23) hx hb dX2_step_84 (by decide) ?_
          have hP : va_P g.1 vwCl [(q_this, .inr (2, [.ref q_shore, .int v_safe, .ref q_moons, .ref q_firsts, .ref q_queue, .int u10.1, .int v_from])), (q_shore, .inr (3, [.ref q_shore_told, .ref q_shore_ways])), (q_shore_told, .inr (4, [.int v_shore_told_keepers, .int v_shore_told_hates, .int v_shore_told_sight, .int v_shore_told_sightTold, .ref q_shore_told_flashes, .ref q_shore_told_haters])), (q_shore_ways, .inr (5, [.int v_shore_ways_rocks, .int v_shore_ways_many, .ref q_shore_ways_keepers, .ref q_shore_ways_changed, .ref q_shore_ways_row])), (q_shore_ways_keepers, .inl (g.2.1, 4320, .inl f_shore_ways_keepers)), (q_shore_told_haters, .inl (g.2.1, 6, .inl f_shore_told_haters)), (q_moons, .inl (g.2.1, 720, .inl u10.2.1)), (q_shore_ways_changed, .inl (g.2.1, 3600, .inl f_shore_ways_changed)), (q_shore_told_flashes, .inl (g.2.1, 6, .inl f_shore_told_flashes)), (q_firsts, .inl (g.2.1, 720, .inl u10.2.2.1)), (q_queue, .inl (g.2.1, 720, .inl u10.2.2.2))] H := hP.sub [2, 4, 5, 6, 7, 0, 3, 1, 8, 9, 10] rfl
          have hD : va_D A [(q_this, .inr (2, [.ref q_shore, .int v_safe, .ref q_moons, .ref q_firsts, .ref q_queue, .int u10.1, .int v_from])), (q_shore, .inr (3, [.ref q_shore_told, .ref q_shore_ways])), (q_shore_told, .inr (4, [.int v_shore_told_keepers, .int v_shore_told_hates, .int v_shore_told_sight, .int v_shore_told_sightTold, .ref q_shore_told_flashes, .ref q_shore_told_haters])), (q_shore_ways, .inr (5, [.int v_shore_ways_rocks, .int v_shore_ways_many, .ref q_shore_ways_keepers, .ref q_shore_ways_changed, .ref q_shore_ways_row])), (q_shore_ways_keepers, .inl (g.2.1, 4320, .inl f_shore_ways_keepers)), (q_shore_told_haters, .inl (g.2.1, 6, .inl f_shore_told_haters)), (q_moons, .inl (g.2.1, 720, .inl u10.2.1)), (q_shore_ways_changed, .inl (g.2.1, 3600, .inl f_shore_ways_changed)), (q_shore_told_flashes, .inl (g.2.1, 6, .inl f_shore_told_flashes)), (q_firsts, .inl (g.2.1, 720, .inl u10.2.2.1)), (q_queue, .inl (g.2.1, 720, .inl u10.2.2.2))] := hD.sub [2, 4, 5, 6, 7, 0, 3, 1, 8, 9, 10] (by decide) rfl
          have hl : lv_has ls 6 [(0, .ref q_this), (1, .int x1), (2, .int x2), (3, .int x3), (4, .int (x4 + 1))] := lv_sub hl [2, 3, 4, 5, 0] rfl
          exact ih hP hD hS hl hres
        · have hres := it_t hres c7
          refine lv_iload hx hb dX2_step_49 (lv_at hl 4 rfl) ?_
          refine lv_goto (tgt := 62) hx hb dX2_step_51 (by decide) ?_
          refine lv_istore (lv' := [(5, .int x4), (0, .ref q_this), (1, .int x1), (2, .int x2), (3, .int x3), (4, .int x4)]) hx hb dX2_step_62 hl (by decide) rfl (fun ls hl => ?_)
          refine lv_aload_n hx hb dX2_step_64 rfl (lv_at hl 1 rfl) ?_
          refine lv_aload_n hx hb dX2_step_65 rfl (lv_at hl 1 rfl) ?_
          refine va_get (D := g.1) (ci := 2) (v := .ref q_shore) (C := RX2) (T := TX2) (N := 7) hx hb hts in_X2_step_X2 hown hK hP 0 rfl rfl 0 (by decide) (hts (.fieldLink RX2 25 "LightKeepers$Search" "shore" "LLightKeepers$Shore;") (List.mem_of_getElem? (i := 1) rfl)) (fun _ h9 => h9) rfl dX2_step_66 ?_
          refine lv_iload_n hx hb dX2_step_69 rfl (lv_at hl 2 rfl) ?_
          refine lv_iload hx hb dX2_step_70 (lv_at hl 5 rfl) ?_
          obtain ⟨u11, hu11, hres⟩ := bd hres
          refine k_i C0 (run_V (As := [.int x1, .int x4]) (rest := [.ref q_this]) C0 (c_X3_after l g (q_this := q_shore) (q_told := q_shore_told) (q_ways := q_shore_ways) (q_ways_keepers := q_shore_ways_keepers) (q_ways_changed := q_shore_ways_changed) (q_ways_row := q_shore_ways_row) (v_ways_rocks := v_shore_ways_rocks) (v_ways_many := v_shore_ways_many) (f_ways_changed := f_shore_ways_changed) (x1 := x1) (x2 := x4) (u0 := u11) hu11 _) 2 gX2_step_X3_after rfl rfl rfl hd_X3_after ⟨Nat.le_of_ble_eq_true rfl, Nat.le_of_ble_eq_true rfl⟩ hP hD hS [9, 1, 5] rfl rfl 9 3 rfl rfl rfl hl.1 rfl (Nat.le_of_ble_eq_true rfl) ⟨Nat.zero_le _, Nat.zero_le _⟩ dX2_step_72) hP hD hS [9, 1, 5] [0, 2, 3, 4, 6, 7, 8, 10] rfl rfl rfl (by decide) (fun H locs hP hD hS => ?_)
          have hP : va_P g.1 vwCl [(q_this, .inr (2, [.ref q_shore, .int v_safe, .ref q_moons, .ref q_firsts, .ref q_queue, .int v_queued, .int v_from])), (q_shore_ways_keepers, .inl (g.2.1, 4320, .inl f_shore_ways_keepers)), (q_shore_told_haters, .inl (g.2.1, 6, .inl f_shore_told_haters)), (q_moons, .inl (g.2.1, 720, .inl f_moons)), (q_shore_told_flashes, .inl (g.2.1, 6, .inl f_shore_told_flashes)), (q_firsts, .inl (g.2.1, 720, .inl f_firsts)), (q_queue, .inl (g.2.1, 720, .inl f_queue)), (q_shore_told, .inr (4, [.int v_shore_told_keepers, .int v_shore_told_hates, .int v_shore_told_sight, .int v_shore_told_sightTold, .ref q_shore_told_flashes, .ref q_shore_told_haters])), (q_shore, .inr (3, [.ref q_shore_told, .ref q_shore_ways])), (q_shore_ways, .inr (5, [.int v_shore_ways_rocks, .int v_shore_ways_many, .ref q_shore_ways_keepers, .ref q_shore_ways_changed, .ref q_shore_ways_row])), (q_shore_ways_changed, .inl (g.2.1, 3600, .inl f_shore_ways_changed))] H := hP
          have hD : va_D A [(q_this, .inr (2, [.ref q_shore, .int v_safe, .ref q_moons, .ref q_firsts, .ref q_queue, .int v_queued, .int v_from])), (q_shore_ways_keepers, .inl (g.2.1, 4320, .inl f_shore_ways_keepers)), (q_shore_told_haters, .inl (g.2.1, 6, .inl f_shore_told_haters)), (q_moons, .inl (g.2.1, 720, .inl f_moons)), (q_shore_told_flashes, .inl (g.2.1, 6, .inl f_shore_told_flashes)), (q_firsts, .inl (g.2.1, 720, .inl f_firsts)), (q_queue, .inl (g.2.1, 720, .inl f_queue)), (q_shore_told, .inr (4, [.int v_shore_told_keepers, .int v_shore_told_hates, .int v_shore_told_sight, .int v_shore_told_sightTold, .ref q_shore_told_flashes, .ref q_shore_told_haters])), (q_shore, .inr (3, [.ref q_shore_told, .ref q_shore_ways])), (q_shore_ways, .inr (5, [.int v_shore_ways_rocks, .int v_shore_ways_many, .ref q_shore_ways_keepers, .ref q_shore_ways_changed, .ref q_shore_ways_row])), (q_shore_ways_changed, .inl (g.2.1, 3600, .inl f_shore_ways_changed))] := hD
          refine lv_iload_n hx hb dX2_step_75 rfl (lv_at hl 4 rfl) ?_
          refine lv_iload hx hb dX2_step_76 (lv_at hl 0 rfl) ?_
          obtain ⟨u12, hu12, hres⟩ := bd hres
          refine k_v C0 (run_V (As := [.int u11, .int x3, .int x4]) (rest := []) C0 (c_X2_reach l g (q_this := q_this) (q_shore := q_shore) (q_moons := q_moons) (q_firsts := q_firsts) (q_queue := q_queue) (q_shore_told := q_shore_told) (q_shore_ways := q_shore_ways) (q_shore_told_flashes := q_shore_told_flashes) (q_shore_told_haters := q_shore_told_haters) (q_shore_ways_keepers := q_shore_ways_keepers) (q_shore_ways_changed := q_shore_ways_changed) (q_shore_ways_row := q_shore_ways_row) (v_safe := v_safe) (v_queued := v_queued) (v_from := v_from) (f_moons := f_moons) (v_shore_told_keepers := v_shore_told_keepers) (v_shore_told_hates := v_shore_told_hates) (v_shore_told_sight := v_shore_told_sight) (v_shore_told_sightTold := v_shore_told_sightTold) (v_shore_ways_rocks := v_shore_ways_rocks) (v_shore_ways_many := v_shore_ways_many) (f_shore_ways_keepers := f_shore_ways_keepers) (f_shore_told_flashes := f_shore_told_flashes) (f_firsts := f_firsts) (f_queue := f_queue) (x1 := u11) (x2 := x3) (x3 := x4) (u0 := u12) hu12 _) 3 gX2_step_X2_reach rfl rfl rfl hd_X2_reach ⟨Nat.le_of_ble_eq_true rfl, Nat.le_of_ble_eq_true rfl⟩ hP hD hS [0, 3, 8, 7, 9, 1, 4, 5, 6] rfl rfl 0 2 rfl rfl rfl hl.1 rfl (Nat.le_of_ble_eq_true rfl) ⟨Nat.zero_le _, Nat.zero_le _⟩ dX2_step_78) hP hD hS [0, 3, 8, 7, 9, 1, 4, 5, 6] [2, 10] rfl rfl rfl (by decide) (fun H locs hP hD hS => ?_)
          have hP : va_P g.1 vwCl [(q_shore_told_haters, .inl (g.2.1, 6, .inl f_shore_told_haters)), (q_shore_ways_changed, .inl (g.2.1, 3600, .inl f_shore_ways_changed)), (q_this, .inr (2, [.ref q_shore, .int v_safe, .ref q_moons, .ref q_firsts, .ref q_queue, .int u12.1, .int v_from])), (q_moons, .inl (g.2.1, 720, .inl u12.2.1)), (q_shore, .inr (3, [.ref q_shore_told, .ref q_shore_ways])), (q_shore_told, .inr (4, [.int v_shore_told_keepers, .int v_shore_told_hates, .int v_shore_told_sight, .int v_shore_told_sightTold, .ref q_shore_told_flashes, .ref q_shore_told_haters])), (q_shore_ways, .inr (5, [.int v_shore_ways_rocks, .int v_shore_ways_many, .ref q_shore_ways_keepers, .ref q_shore_ways_changed, .ref q_shore_ways_row])), (q_shore_ways_keepers, .inl (g.2.1, 4320, .inl f_shore_ways_keepers)), (q_shore_told_flashes, .inl (g.2.1, 6, .inl f_shore_told_flashes)), (q_firsts, .inl (g.2.1, 720, .inl u12.2.2.1)), (q_queue, .inl (g.2.1, 720, .inl u12.2.2.2))] H := hP
          have hD : va_D A [(q_shore_told_haters, .inl (g.2.1, 6, .inl f_shore_told_haters)), (q_shore_ways_changed, .inl (g.2.1, 3600, .inl f_shore_ways_changed)), (q_this, .inr (2, [.ref q_shore, .int v_safe, .ref q_moons, .ref q_firsts, .ref q_queue, .int u12.1, .int v_from])), (q_moons, .inl (g.2.1, 720, .inl u12.2.1)), (q_shore, .inr (3, [.ref q_shore_told, .ref q_shore_ways])), (q_shore_told, .inr (4, [.int v_shore_told_keepers, .int v_shore_told_hates, .int v_shore_told_sight, .int v_shore_told_sightTold, .ref q_shore_told_flashes, .ref q_shore_told_haters])), (q_shore_ways, .inr (5, [.int v_shore_ways_rocks, .int v_shore_ways_many, .ref q_shore_ways_keepers, .ref q_shore_ways_changed, .ref q_shore_ways_row])), (q_shore_ways_keepers, .inl (g.2.1, 4320, .inl f_shore_ways_keepers)), (q_shore_told_flashes, .inl (g.2.1, 6, .inl f_shore_told_flashes)), (q_firsts, .inl (g.2.1, 720, .inl u12.2.2.1)), (q_queue, .inl (g.2.1, 720, .inl u12.2.2.2))] := hD
          refine lv_iinc (v := (x4 + 1)) (lv' := [(4, .int (x4 + 1)), (5, .int x4), (0, .ref q_this), (1, .int x1), (2, .int x2), (3, .int x3)]) hx hb dX2_step_81 hl (k := 5) rfl rfl (by decide) rfl (fun ls hl => ?_)
          refine lv_goto (tgt := 23) hx hb dX2_step_84 (by decide) ?_
          have hP : va_P g.1 vwCl [(q_this, .inr (2, [.ref q_shore, .int v_safe, .ref q_moons, .ref q_firsts, .ref q_queue, .int u12.1, .int v_from])), (q_shore, .inr (3, [.ref q_shore_told, .ref q_shore_ways])), (q_shore_told, .inr (4, [.int v_shore_told_keepers, .int v_shore_told_hates, .int v_shore_told_sight, .int v_shore_told_sightTold, .ref q_shore_told_flashes, .ref q_shore_told_haters])), (q_shore_ways, .inr (5, [.int v_shore_ways_rocks, .int v_shore_ways_many, .ref q_shore_ways_keepers, .ref q_shore_ways_changed, .ref q_shore_ways_row])), (q_shore_ways_keepers, .inl (g.2.1, 4320, .inl f_shore_ways_keepers)), (q_shore_told_haters, .inl (g.2.1, 6, .inl f_shore_told_haters)), (q_moons, .inl (g.2.1, 720, .inl u12.2.1)), (q_shore_ways_changed, .inl (g.2.1, 3600, .inl f_shore_ways_changed)), (q_shore_told_flashes, .inl (g.2.1, 6, .inl f_shore_told_flashes)), (q_firsts, .inl (g.2.1, 720, .inl u12.2.2.1)), (q_queue, .inl (g.2.1, 720, .inl u12.2.2.2))] H := hP.sub [2, 4, 5, 6, 7, 0, 3, 1, 8, 9, 10] rfl
          have hD : va_D A [(q_this, .inr (2, [.ref q_shore, .int v_safe, .ref q_moons, .ref q_firsts, .ref q_queue, .int u12.1, .int v_from])), (q_shore, .inr (3, [.ref q_shore_told, .ref q_shore_ways])), (q_shore_told, .inr (4, [.int v_shore_told_keepers, .int v_shore_told_hates, .int v_shore_told_sight, .int v_shore_told_sightTold, .ref q_shore_told_flashes, .ref q_shore_told_haters])), (q_shore_ways, .inr (5, [.int v_shore_ways_rocks, .int v_shore_ways_many, .ref q_shore_ways_keepers, .ref q_shore_ways_changed, .ref q_shore_ways_row])), (q_shore_ways_keepers, .inl (g.2.1, 4320, .inl f_shore_ways_keepers)), (q_shore_told_haters, .inl (g.2.1, 6, .inl f_shore_told_haters)), (q_moons, .inl (g.2.1, 720, .inl u12.2.1)), (q_shore_ways_changed, .inl (g.2.1, 3600, .inl f_shore_ways_changed)), (q_shore_told_flashes, .inl (g.2.1, 6, .inl f_shore_told_flashes)), (q_firsts, .inl (g.2.1, 720, .inl u12.2.2.1)), (q_queue, .inl (g.2.1, 720, .inl u12.2.2.2))] := hD.sub [2, 4, 5, 6, 7, 0, 3, 1, 8, 9, 10] (by decide) rfl
          have hl : lv_has ls 6 [(0, .ref q_this), (1, .int x1), (2, .int x2), (3, .int x3), (4, .int (x4 + 1))] := lv_sub hl [2, 3, 4, 5, 0] rfl
          exact ih hP hD hS hl hres
set_option maxHeartbeats 4000000 in
set_option maxRecDepth 100000 in
theorem c_X2_step (l : Launch) (g : gG) {q_this q_shore q_moons q_firsts q_queue q_shore_told q_shore_ways q_shore_told_flashes q_shore_told_haters q_shore_ways_keepers q_shore_ways_changed q_shore_ways_row : Nat} {v_safe : Int32} {v_queued : Int32} {v_from : Int32} {v_shore_told_keepers : Int32} {v_shore_told_hates : Int32} {v_shore_told_sight : Int32} {v_shore_told_sightTold : Int32} {v_shore_ways_rocks : Int32} {v_shore_ways_many : Int32} {f_shore_ways_keepers : Nat → Int32} {f_shore_told_haters : Nat → Int32} {f_moons : Nat → Int32} {f_shore_ways_changed : Nat → Int32} {f_shore_told_flashes : Nat → Int32} {f_firsts : Nat → Int32} {f_queue : Nat → Int32} {x1 : Int32} {u0 : Int32 × (Nat → Int32) × (Nat → Int32) × (Nat → Int32)} (hres : f_X2_step v_safe v_queued v_shore_told_keepers v_shore_told_sight f_shore_ways_keepers f_shore_told_haters f_moons f_shore_ways_changed f_shore_told_flashes f_firsts f_queue x1 = some u0) : Cv l g yX2_step wsX2_step rm_X2_step [.ref q_this, .int x1] [(q_this, .inr (2, [.ref q_shore, .int v_safe, .ref q_moons, .ref q_firsts, .ref q_queue, .int v_queued, .int v_from])), (q_shore, .inr (3, [.ref q_shore_told, .ref q_shore_ways])), (q_shore_told, .inr (4, [.int v_shore_told_keepers, .int v_shore_told_hates, .int v_shore_told_sight, .int v_shore_told_sightTold, .ref q_shore_told_flashes, .ref q_shore_told_haters])), (q_shore_ways, .inr (5, [.int v_shore_ways_rocks, .int v_shore_ways_many, .ref q_shore_ways_keepers, .ref q_shore_ways_changed, .ref q_shore_ways_row])), (q_shore_ways_keepers, .inl (g.2.1, 4320, .inl f_shore_ways_keepers)), (q_shore_told_haters, .inl (g.2.1, 6, .inl f_shore_told_haters)), (q_moons, .inl (g.2.1, 720, .inl f_moons)), (q_shore_ways_changed, .inl (g.2.1, 3600, .inl f_shore_ways_changed)), (q_shore_told_flashes, .inl (g.2.1, 6, .inl f_shore_told_flashes)), (q_firsts, .inl (g.2.1, 720, .inl f_firsts)), (q_queue, .inl (g.2.1, 720, .inl f_queue))] [(q_this, .inr (2, [.ref q_shore, .int v_safe, .ref q_moons, .ref q_firsts, .ref q_queue, .int u0.1, .int v_from])), (q_shore, .inr (3, [.ref q_shore_told, .ref q_shore_ways])), (q_shore_told, .inr (4, [.int v_shore_told_keepers, .int v_shore_told_hates, .int v_shore_told_sight, .int v_shore_told_sightTold, .ref q_shore_told_flashes, .ref q_shore_told_haters])), (q_shore_ways, .inr (5, [.int v_shore_ways_rocks, .int v_shore_ways_many, .ref q_shore_ways_keepers, .ref q_shore_ways_changed, .ref q_shore_ways_row])), (q_shore_ways_keepers, .inl (g.2.1, 4320, .inl f_shore_ways_keepers)), (q_shore_told_haters, .inl (g.2.1, 6, .inl f_shore_told_haters)), (q_moons, .inl (g.2.1, 720, .inl u0.2.1)), (q_shore_ways_changed, .inl (g.2.1, 3600, .inl f_shore_ways_changed)), (q_shore_told_flashes, .inl (g.2.1, 6, .inl f_shore_told_flashes)), (q_firsts, .inl (g.2.1, 720, .inl u0.2.2.1)), (q_queue, .inl (g.2.1, 720, .inl u0.2.2.2))] := by
  intro sz
  refine gBody (Qf := fun A => gQv g [(q_this, .inr (2, [.ref q_shore, .int v_safe, .ref q_moons, .ref q_firsts, .ref q_queue, .int u0.1, .int v_from])), (q_shore, .inr (3, [.ref q_shore_told, .ref q_shore_ways])), (q_shore_told, .inr (4, [.int v_shore_told_keepers, .int v_shore_told_hates, .int v_shore_told_sight, .int v_shore_told_sightTold, .ref q_shore_told_flashes, .ref q_shore_told_haters])), (q_shore_ways, .inr (5, [.int v_shore_ways_rocks, .int v_shore_ways_many, .ref q_shore_ways_keepers, .ref q_shore_ways_changed, .ref q_shore_ways_row])), (q_shore_ways_keepers, .inl (g.2.1, 4320, .inl f_shore_ways_keepers)), (q_shore_told_haters, .inl (g.2.1, 6, .inl f_shore_told_haters)), (q_moons, .inl (g.2.1, 720, .inl u0.2.1)), (q_shore_ways_changed, .inl (g.2.1, 3600, .inl f_shore_ways_changed)), (q_shore_told_flashes, .inl (g.2.1, 6, .inl f_shore_told_flashes)), (q_firsts, .inl (g.2.1, 720, .inl u0.2.2.1)), (q_queue, .inl (g.2.1, 720, .inl u0.2.2.2))] A) (cc := cX2_step) (maxL := 6) (ret := none) (own := RX2) (by decide +kernel) rfl rfl (Nat.le_of_ble_eq_true rfl) ?_
  intro p e s m args below meth c A C0 H hS hD hP ls hl
  obtain ⟨hx, hb, hml, hown, hts, hr, hlk, hN, hK, hF, hA⟩ := id C0
  have hl : lv_has ls 6 [(0, .ref q_this), (1, .int x1)] := hl
  unfold f_X2_step at hres
  refine lv_aload_n hx hb dX2_step_0 rfl (lv_at hl 0 rfl) ?_
  refine va_get (D := g.1) (ci := 2) (v := .ref q_shore) (C := RX2) (T := TX2) (N := 7) hx hb hts in_X2_step_X2 hown hK hP 0 rfl rfl 0 (by decide) (hts (.fieldLink RX2 25 "LightKeepers$Search" "shore" "LLightKeepers$Shore;") (List.mem_of_getElem? (i := 1) rfl)) (fun _ h9 => h9) rfl dX2_step_1 ?_
  refine lv_iload_n hx hb dX2_step_4 rfl (lv_at hl 1 rfl) ?_
  obtain ⟨u1, hu1, hres⟩ := bd hres
  refine k_i C0 (run_V (As := [.int x1]) (rest := []) C0 (c_X3_willing l g (q_this := q_shore) (q_told := q_shore_told) (q_ways := q_shore_ways) (q_told_flashes := q_shore_told_flashes) (q_told_haters := q_shore_told_haters) (q_ways_keepers := q_shore_ways_keepers) (q_ways_changed := q_shore_ways_changed) (q_ways_row := q_shore_ways_row) (v_told_keepers := v_shore_told_keepers) (v_told_hates := v_shore_told_hates) (v_told_sight := v_shore_told_sight) (v_told_sightTold := v_shore_told_sightTold) (v_ways_rocks := v_shore_ways_rocks) (v_ways_many := v_shore_ways_many) (f_ways_keepers := f_shore_ways_keepers) (f_told_haters := f_shore_told_haters) (x1 := x1) (u0 := u1) hu1 _) 1 gX2_step_X3_willing rfl rfl rfl hd_X3_willing ⟨Nat.le_of_ble_eq_true rfl, Nat.le_of_ble_eq_true rfl⟩ hP hD hS [1, 2, 3, 4, 5] rfl rfl 1 3 rfl rfl rfl hl.1 rfl (Nat.le_of_ble_eq_true rfl) ⟨Nat.zero_le _, Nat.zero_le _⟩ dX2_step_5) hP hD hS [1, 2, 3, 4, 5] [0, 6, 7, 8, 9, 10] rfl rfl rfl (by decide) (fun H locs hP hD hS => ?_)
  have hP : va_P g.1 vwCl [(q_this, .inr (2, [.ref q_shore, .int v_safe, .ref q_moons, .ref q_firsts, .ref q_queue, .int v_queued, .int v_from])), (q_moons, .inl (g.2.1, 720, .inl f_moons)), (q_shore_ways_changed, .inl (g.2.1, 3600, .inl f_shore_ways_changed)), (q_shore_told_flashes, .inl (g.2.1, 6, .inl f_shore_told_flashes)), (q_firsts, .inl (g.2.1, 720, .inl f_firsts)), (q_queue, .inl (g.2.1, 720, .inl f_queue)), (q_shore, .inr (3, [.ref q_shore_told, .ref q_shore_ways])), (q_shore_told, .inr (4, [.int v_shore_told_keepers, .int v_shore_told_hates, .int v_shore_told_sight, .int v_shore_told_sightTold, .ref q_shore_told_flashes, .ref q_shore_told_haters])), (q_shore_ways, .inr (5, [.int v_shore_ways_rocks, .int v_shore_ways_many, .ref q_shore_ways_keepers, .ref q_shore_ways_changed, .ref q_shore_ways_row])), (q_shore_ways_keepers, .inl (g.2.1, 4320, .inl f_shore_ways_keepers)), (q_shore_told_haters, .inl (g.2.1, 6, .inl f_shore_told_haters))] H := hP
  have hD : va_D A [(q_this, .inr (2, [.ref q_shore, .int v_safe, .ref q_moons, .ref q_firsts, .ref q_queue, .int v_queued, .int v_from])), (q_moons, .inl (g.2.1, 720, .inl f_moons)), (q_shore_ways_changed, .inl (g.2.1, 3600, .inl f_shore_ways_changed)), (q_shore_told_flashes, .inl (g.2.1, 6, .inl f_shore_told_flashes)), (q_firsts, .inl (g.2.1, 720, .inl f_firsts)), (q_queue, .inl (g.2.1, 720, .inl f_queue)), (q_shore, .inr (3, [.ref q_shore_told, .ref q_shore_ways])), (q_shore_told, .inr (4, [.int v_shore_told_keepers, .int v_shore_told_hates, .int v_shore_told_sight, .int v_shore_told_sightTold, .ref q_shore_told_flashes, .ref q_shore_told_haters])), (q_shore_ways, .inr (5, [.int v_shore_ways_rocks, .int v_shore_ways_many, .ref q_shore_ways_keepers, .ref q_shore_ways_changed, .ref q_shore_ways_row])), (q_shore_ways_keepers, .inl (g.2.1, 4320, .inl f_shore_ways_keepers)), (q_shore_told_haters, .inl (g.2.1, 6, .inl f_shore_told_haters))] := hD
  refine lv_istore_n (lv' := [(2, .int u1), (0, .ref q_this), (1, .int x1)]) hx hb dX2_step_8 rfl hl (by decide) rfl (fun ls hl => ?_)
  refine lv_aload_n hx hb dX2_step_9 rfl (lv_at hl 1 rfl) ?_
  refine va_get (D := g.1) (ci := 2) (v := .ref q_moons) (C := RX2) (T := TX2) (N := 7) hx hb hts in_X2_step_X2 hown hK hP 0 rfl rfl 2 (by decide) (hts (.fieldLink RX2 9 "LightKeepers$Search" "moons" "[I") (List.mem_of_getElem? (i := 2) rfl)) (fun _ h9 => h9) rfl dX2_step_10 ?_
  refine lv_iload_n hx hb dX2_step_13 rfl (lv_at hl 2 rfl) ?_
  obtain ⟨u2, hu2, hres⟩ := bd hres
  refine k_i C0 (run_SN (As := [.ref q_moons, .int x1]) (rest := []) C0 (c_X6_item l g (q_a0 := q_moons) (n_a0 := 720) (f_a0 := f_moons) (x1 := x1) (u0 := u2) hu2 _) 2 gX2_step_X6_item_n46 rfl rfl rfl (List.mem_of_getElem? (i := 8) rfl) (List.mem_of_getElem? (i := 24) rfl) (List.mem_of_getElem? (i := 25) rfl) hd_X6_item ⟨Nat.le_of_ble_eq_true rfl, Nat.le_of_ble_eq_true rfl⟩ hP hD hS [1] rfl rfl rfl hl.1 rfl (Nat.le_of_ble_eq_true rfl) ⟨Nat.zero_le _, Nat.zero_le _⟩ dX2_step_14) hP hD hS [1] [0, 2, 3, 4, 5, 6, 7, 8, 9, 10] rfl rfl rfl (by decide) (fun H locs hP hD hS => ?_)
  have hP : va_P g.1 vwCl [(q_this, .inr (2, [.ref q_shore, .int v_safe, .ref q_moons, .ref q_firsts, .ref q_queue, .int v_queued, .int v_from])), (q_shore_ways_changed, .inl (g.2.1, 3600, .inl f_shore_ways_changed)), (q_shore_told_flashes, .inl (g.2.1, 6, .inl f_shore_told_flashes)), (q_firsts, .inl (g.2.1, 720, .inl f_firsts)), (q_queue, .inl (g.2.1, 720, .inl f_queue)), (q_shore, .inr (3, [.ref q_shore_told, .ref q_shore_ways])), (q_shore_told, .inr (4, [.int v_shore_told_keepers, .int v_shore_told_hates, .int v_shore_told_sight, .int v_shore_told_sightTold, .ref q_shore_told_flashes, .ref q_shore_told_haters])), (q_shore_ways, .inr (5, [.int v_shore_ways_rocks, .int v_shore_ways_many, .ref q_shore_ways_keepers, .ref q_shore_ways_changed, .ref q_shore_ways_row])), (q_shore_ways_keepers, .inl (g.2.1, 4320, .inl f_shore_ways_keepers)), (q_shore_told_haters, .inl (g.2.1, 6, .inl f_shore_told_haters)), (q_moons, .inl (g.2.1, 720, .inl f_moons))] H := hP
  have hD : va_D A [(q_this, .inr (2, [.ref q_shore, .int v_safe, .ref q_moons, .ref q_firsts, .ref q_queue, .int v_queued, .int v_from])), (q_shore_ways_changed, .inl (g.2.1, 3600, .inl f_shore_ways_changed)), (q_shore_told_flashes, .inl (g.2.1, 6, .inl f_shore_told_flashes)), (q_firsts, .inl (g.2.1, 720, .inl f_firsts)), (q_queue, .inl (g.2.1, 720, .inl f_queue)), (q_shore, .inr (3, [.ref q_shore_told, .ref q_shore_ways])), (q_shore_told, .inr (4, [.int v_shore_told_keepers, .int v_shore_told_hates, .int v_shore_told_sight, .int v_shore_told_sightTold, .ref q_shore_told_flashes, .ref q_shore_told_haters])), (q_shore_ways, .inr (5, [.int v_shore_ways_rocks, .int v_shore_ways_many, .ref q_shore_ways_keepers, .ref q_shore_ways_changed, .ref q_shore_ways_row])), (q_shore_ways_keepers, .inl (g.2.1, 4320, .inl f_shore_ways_keepers)), (q_shore_told_haters, .inl (g.2.1, 6, .inl f_shore_told_haters)), (q_moons, .inl (g.2.1, 720, .inl f_moons))] := hD
  refine lv_iconst (v := 1) hx hb dX2_step_17 (by decide) ?_
  refine lv_iadd hx hb dX2_step_18 ?_
  refine lv_istore_n (lv' := [(3, .int (u2 + 1)), (2, .int u1), (0, .ref q_this), (1, .int x1)]) hx hb dX2_step_19 rfl hl (by decide) rfl (fun ls hl => ?_)
  refine lv_iconst (v := 1) hx hb dX2_step_20 (by decide) ?_
  refine lv_istore (lv' := [(4, .int 1), (3, .int (u2 + 1)), (2, .int u1), (0, .ref q_this), (1, .int x1)]) hx hb dX2_step_21 hl (by decide) rfl (fun ls hl => ?_)
  have hP : va_P g.1 vwCl [(q_this, .inr (2, [.ref q_shore, .int v_safe, .ref q_moons, .ref q_firsts, .ref q_queue, .int v_queued, .int v_from])), (q_shore, .inr (3, [.ref q_shore_told, .ref q_shore_ways])), (q_shore_told, .inr (4, [.int v_shore_told_keepers, .int v_shore_told_hates, .int v_shore_told_sight, .int v_shore_told_sightTold, .ref q_shore_told_flashes, .ref q_shore_told_haters])), (q_shore_ways, .inr (5, [.int v_shore_ways_rocks, .int v_shore_ways_many, .ref q_shore_ways_keepers, .ref q_shore_ways_changed, .ref q_shore_ways_row])), (q_shore_ways_keepers, .inl (g.2.1, 4320, .inl f_shore_ways_keepers)), (q_shore_told_haters, .inl (g.2.1, 6, .inl f_shore_told_haters)), (q_moons, .inl (g.2.1, 720, .inl f_moons)), (q_shore_ways_changed, .inl (g.2.1, 3600, .inl f_shore_ways_changed)), (q_shore_told_flashes, .inl (g.2.1, 6, .inl f_shore_told_flashes)), (q_firsts, .inl (g.2.1, 720, .inl f_firsts)), (q_queue, .inl (g.2.1, 720, .inl f_queue))] H := hP.sub [0, 5, 6, 7, 8, 9, 10, 1, 2, 3, 4] rfl
  have hD : va_D A [(q_this, .inr (2, [.ref q_shore, .int v_safe, .ref q_moons, .ref q_firsts, .ref q_queue, .int v_queued, .int v_from])), (q_shore, .inr (3, [.ref q_shore_told, .ref q_shore_ways])), (q_shore_told, .inr (4, [.int v_shore_told_keepers, .int v_shore_told_hates, .int v_shore_told_sight, .int v_shore_told_sightTold, .ref q_shore_told_flashes, .ref q_shore_told_haters])), (q_shore_ways, .inr (5, [.int v_shore_ways_rocks, .int v_shore_ways_many, .ref q_shore_ways_keepers, .ref q_shore_ways_changed, .ref q_shore_ways_row])), (q_shore_ways_keepers, .inl (g.2.1, 4320, .inl f_shore_ways_keepers)), (q_shore_told_haters, .inl (g.2.1, 6, .inl f_shore_told_haters)), (q_moons, .inl (g.2.1, 720, .inl f_moons)), (q_shore_ways_changed, .inl (g.2.1, 3600, .inl f_shore_ways_changed)), (q_shore_told_flashes, .inl (g.2.1, 6, .inl f_shore_told_flashes)), (q_firsts, .inl (g.2.1, 720, .inl f_firsts)), (q_queue, .inl (g.2.1, 720, .inl f_queue))] := hD.sub [0, 5, 6, 7, 8, 9, 10, 1, 2, 3, 4] (by decide) rfl
  have hl : lv_has ls 6 [(0, .ref q_this), (1, .int x1), (2, .int u1), (3, .int (u2 + 1)), (4, .int 1)] := lv_sub hl [3, 4, 2, 1, 0] rfl
  refine w_X2_step_L23 C0 hP hD hS hl hres (fun y13 y14 y15 y16 y17 H locs ls hP hD hS hl hres => ?_)
  cases hres
  exact ret_v C0 hP hD hS dX2_step_87
set_option maxHeartbeats 4000000 in
set_option maxRecDepth 100000 in
theorem w_X2_spread_L37 {p : Program} {l : Launch} {e : Env} {s : State} {m : MethodId} {args : Array Value} {below : List Frame} {meth : Method} {c : Code} {g : gG} {A : Nat → Prop} {q_this q_shore q_moons q_firsts q_queue q_shore_told q_shore_ways q_shore_told_flashes q_shore_told_haters q_shore_ways_keepers q_shore_ways_changed q_shore_ways_row : Nat} {v_safe : Int32} {v_from : Int32} {v_shore_told_keepers : Int32} {v_shore_told_hates : Int32} {v_shore_told_sight : Int32} {v_shore_told_sightTold : Int32} {v_shore_ways_rocks : Int32} {v_shore_ways_many : Int32} {f_shore_ways_keepers : Nat → Int32} {f_shore_told_haters : Nat → Int32} {f_shore_ways_changed : Nat → Int32} {f_shore_told_flashes : Nat → Int32} {u0 : Int32 × Int32 × (Nat → Int32) × (Nat → Int32) × (Nat → Int32)} {k : Int32 → Int32 → (Nat → Int32) → (Nat → Int32) → (Nat → Int32) → Option (Int32 × Int32 × (Nat → Int32) × (Nat → Int32) × (Nat → Int32))} {n : Nat} {x2 : Int32} {v_queued : Int32} {f_moons : Nat → Int32} {f_firsts : Nat → Int32} {f_queue : Nat → Int32} {H : Heap} {locs : List Loc} {ls : Array Slot} (C0 : Cx p s m args meth c RX2 cX2_spread 3 wsX2_spread none g A)
    (hP : va_P g.1 vwCl [(q_this, .inr (2, [.ref q_shore, .int v_safe, .ref q_moons, .ref q_firsts, .ref q_queue, .int v_queued, .int v_from])), (q_moons, .inl (g.2.1, 720, .inl f_moons)), (q_firsts, .inl (g.2.1, 720, .inl f_firsts)), (q_queue, .inl (g.2.1, 720, .inl f_queue)), (q_shore, .inr (3, [.ref q_shore_told, .ref q_shore_ways])), (q_shore_told, .inr (4, [.int v_shore_told_keepers, .int v_shore_told_hates, .int v_shore_told_sight, .int v_shore_told_sightTold, .ref q_shore_told_flashes, .ref q_shore_told_haters])), (q_shore_ways, .inr (5, [.int v_shore_ways_rocks, .int v_shore_ways_many, .ref q_shore_ways_keepers, .ref q_shore_ways_changed, .ref q_shore_ways_row])), (q_shore_ways_keepers, .inl (g.2.1, 4320, .inl f_shore_ways_keepers)), (q_shore_told_haters, .inl (g.2.1, 6, .inl f_shore_told_haters)), (q_shore_ways_changed, .inl (g.2.1, 3600, .inl f_shore_ways_changed)), (q_shore_told_flashes, .inl (g.2.1, 6, .inl f_shore_told_flashes))] H) (hD : va_D A [(q_this, .inr (2, [.ref q_shore, .int v_safe, .ref q_moons, .ref q_firsts, .ref q_queue, .int v_queued, .int v_from])), (q_moons, .inl (g.2.1, 720, .inl f_moons)), (q_firsts, .inl (g.2.1, 720, .inl f_firsts)), (q_queue, .inl (g.2.1, 720, .inl f_queue)), (q_shore, .inr (3, [.ref q_shore_told, .ref q_shore_ways])), (q_shore_told, .inr (4, [.int v_shore_told_keepers, .int v_shore_told_hates, .int v_shore_told_sight, .int v_shore_told_sightTold, .ref q_shore_told_flashes, .ref q_shore_told_haters])), (q_shore_ways, .inr (5, [.int v_shore_ways_rocks, .int v_shore_ways_many, .ref q_shore_ways_keepers, .ref q_shore_ways_changed, .ref q_shore_ways_row])), (q_shore_ways_keepers, .inl (g.2.1, 4320, .inl f_shore_ways_keepers)), (q_shore_told_haters, .inl (g.2.1, 6, .inl f_shore_told_haters)), (q_shore_ways_changed, .inl (g.2.1, 3600, .inl f_shore_ways_changed)), (q_shore_told_flashes, .inl (g.2.1, 6, .inl f_shore_told_flashes))]) (hS : va_S A s.heap H locs) (hl : lv_has ls 3 [(0, .ref q_this), (2, .int x2)]) (hres : lp_X2_spread_L37 v_safe v_shore_told_keepers v_shore_told_sight f_shore_ways_keepers f_shore_told_haters f_shore_ways_changed f_shore_told_flashes k n x2 v_queued f_moons f_firsts f_queue = some u0)
    (K : ∀ (x2 : Int32) (v_queued : Int32) (f_moons : Nat → Int32) (f_firsts : Nat → Int32) (f_queue : Nat → Int32) (H : Heap) (locs : List Loc) (ls : Array Slot), va_P g.1 vwCl [(q_this, .inr (2, [.ref q_shore, .int v_safe, .ref q_moons, .ref q_firsts, .ref q_queue, .int v_queued, .int v_from])), (q_moons, .inl (g.2.1, 720, .inl f_moons)), (q_firsts, .inl (g.2.1, 720, .inl f_firsts)), (q_queue, .inl (g.2.1, 720, .inl f_queue)), (q_shore, .inr (3, [.ref q_shore_told, .ref q_shore_ways])), (q_shore_told, .inr (4, [.int v_shore_told_keepers, .int v_shore_told_hates, .int v_shore_told_sight, .int v_shore_told_sightTold, .ref q_shore_told_flashes, .ref q_shore_told_haters])), (q_shore_ways, .inr (5, [.int v_shore_ways_rocks, .int v_shore_ways_many, .ref q_shore_ways_keepers, .ref q_shore_ways_changed, .ref q_shore_ways_row])), (q_shore_ways_keepers, .inl (g.2.1, 4320, .inl f_shore_ways_keepers)), (q_shore_told_haters, .inl (g.2.1, 6, .inl f_shore_told_haters)), (q_shore_ways_changed, .inl (g.2.1, 3600, .inl f_shore_ways_changed)), (q_shore_told_flashes, .inl (g.2.1, 6, .inl f_shore_told_flashes))] H → va_D A [(q_this, .inr (2, [.ref q_shore, .int v_safe, .ref q_moons, .ref q_firsts, .ref q_queue, .int v_queued, .int v_from])), (q_moons, .inl (g.2.1, 720, .inl f_moons)), (q_firsts, .inl (g.2.1, 720, .inl f_firsts)), (q_queue, .inl (g.2.1, 720, .inl f_queue)), (q_shore, .inr (3, [.ref q_shore_told, .ref q_shore_ways])), (q_shore_told, .inr (4, [.int v_shore_told_keepers, .int v_shore_told_hates, .int v_shore_told_sight, .int v_shore_told_sightTold, .ref q_shore_told_flashes, .ref q_shore_told_haters])), (q_shore_ways, .inr (5, [.int v_shore_ways_rocks, .int v_shore_ways_many, .ref q_shore_ways_keepers, .ref q_shore_ways_changed, .ref q_shore_ways_row])), (q_shore_ways_keepers, .inl (g.2.1, 4320, .inl f_shore_ways_keepers)), (q_shore_told_haters, .inl (g.2.1, 6, .inl f_shore_told_haters)), (q_shore_ways_changed, .inl (g.2.1, 3600, .inl f_shore_ways_changed)), (q_shore_told_flashes, .inl (g.2.1, 6, .inl f_shore_told_flashes))] → va_S A s.heap H locs → lv_has ls 3 [(0, .ref q_this), (2, .int x2)] → k x2 v_queued f_moons f_firsts f_queue = some u0 → W p l e rm_X2_spread s m args below meth c H locs 0 0 (MQ below (gQv g [(q_this, .inr (2, [.ref q_shore, .int v_safe, .ref q_moons, .ref q_firsts, .ref q_queue, .int u0.1, .int u0.2.1])), (q_moons, .inl (g.2.1, 720, .inl u0.2.2.1)), (q_firsts, .inl (g.2.1, 720, .inl u0.2.2.2.1)), (q_queue, .inl (g.2.1, 720, .inl u0.2.2.2.2)), (q_shore, .inr (3, [.ref q_shore_told, .ref q_shore_ways])), (q_shore_told, .inr (4, [.int v_shore_told_keepers, .int v_shore_told_hates, .int v_shore_told_sight, .int v_shore_told_sightTold, .ref q_shore_told_flashes, .ref q_shore_told_haters])), (q_shore_ways, .inr (5, [.int v_shore_ways_rocks, .int v_shore_ways_many, .ref q_shore_ways_keepers, .ref q_shore_ways_changed, .ref q_shore_ways_row])), (q_shore_ways_keepers, .inl (g.2.1, 4320, .inl f_shore_ways_keepers)), (q_shore_told_haters, .inl (g.2.1, 6, .inl f_shore_told_haters)), (q_shore_ways_changed, .inl (g.2.1, 3600, .inl f_shore_ways_changed)), (q_shore_told_flashes, .inl (g.2.1, 6, .inl f_shore_told_flashes))] A) args s 0 0 A) (F0 m 70 ls [])) :
    W p l e rm_X2_spread s m args below meth c H locs 0 0 (MQ below (gQv g [(q_this, .inr (2, [.ref q_shore, .int v_safe, .ref q_moons, .ref q_firsts, .ref q_queue, .int u0.1, .int u0.2.1])), (q_moons, .inl (g.2.1, 720, .inl u0.2.2.1)), (q_firsts, .inl (g.2.1, 720, .inl u0.2.2.2.1)), (q_queue, .inl (g.2.1, 720, .inl u0.2.2.2.2)), (q_shore, .inr (3, [.ref q_shore_told, .ref q_shore_ways])), (q_shore_told, .inr (4, [.int v_shore_told_keepers, .int v_shore_told_hates, .int v_shore_told_sight, .int v_shore_told_sightTold, .ref q_shore_told_flashes, .ref q_shore_told_haters])), (q_shore_ways, .inr (5, [.int v_shore_ways_rocks, .int v_shore_ways_many, .ref q_shore_ways_keepers, .ref q_shore_ways_changed, .ref q_shore_ways_row])), (q_shore_ways_keepers, .inl (g.2.1, 4320, .inl f_shore_ways_keepers)), (q_shore_told_haters, .inl (g.2.1, 6, .inl f_shore_told_haters)), (q_shore_ways_changed, .inl (g.2.1, 3600, .inl f_shore_ways_changed)), (q_shore_told_flashes, .inl (g.2.1, 6, .inl f_shore_told_flashes))] A) args s 0 0 A) (F0 m 37 ls []) := by
  obtain ⟨hx, hb, hml, hown, hts, hr, hlk, hN, hK, hF, hA⟩ := id C0
  induction n generalizing x2 v_queued f_moons f_firsts f_queue H locs ls with
  | zero => cases hres
  | succ n ih =>
    unfold lp_X2_spread_L37 at hres
    refine lv_iload_n hx hb dX2_spread_37 rfl (lv_at hl 1 rfl) ?_
    refine lv_aload_n hx hb dX2_spread_38 rfl (lv_at hl 0 rfl) ?_
    refine va_get (D := g.1) (ci := 2) (v := .int v_queued) (C := RX2) (T := TX2) (N := 7) hx hb hts in_X2_spread_X2 hown hK hP 0 rfl rfl 5 (by decide) (hts (.fieldLink RX2 33 "LightKeepers$Search" "queued" "I") (List.mem_of_getElem? (i := 2) rfl)) (fun _ h9 => h9) rfl dX2_spread_39 ?_
    refine lv_icmp_ge (tgt := 70) hx hb dX2_spread_42 (by decide) (fun c4 => ?_) (fun c4 => ?_)
    · have hres := it_t hres c4
      exact K _ _ _ _ _ _ _ _ hP hD hS hl hres
    · have hres := it_f hres c4
      refine lv_iload_n hx hb dX2_spread_45 rfl (lv_at hl 1 rfl) ?_
      refine lv_sipush (v := 720) hx hb dX2_spread_46 (by decide) ?_
      refine lv_icmp_ge (tgt := 70) hx hb dX2_spread_49 (by decide) (fun c5 => ?_) (fun c5 => ?_)
      · have hres := it_t hres c5
        exact K _ _ _ _ _ _ _ _ hP hD hS hl hres
      · have hres := it_f hres c5
        refine lv_aload_n hx hb dX2_spread_52 rfl (lv_at hl 0 rfl) ?_
        refine lv_aload_n hx hb dX2_spread_53 rfl (lv_at hl 0 rfl) ?_
        refine va_get (D := g.1) (ci := 2) (v := .ref q_queue) (C := RX2) (T := TX2) (N := 7) hx hb hts in_X2_spread_X2 hown hK hP 0 rfl rfl 4 (by decide) (hts (.fieldLink RX2 18 "LightKeepers$Search" "queue" "[I") (List.mem_of_getElem? (i := 4) rfl)) (fun _ h9 => h9) rfl dX2_spread_54 ?_
        refine lv_iload_n hx hb dX2_spread_57 rfl (lv_at hl 1 rfl) ?_
        obtain ⟨u6, hu6, hres⟩ := bd hres
        refine k_i C0 (run_SN (As := [.ref q_queue, .int x2]) (rest := [.ref q_this]) C0 (c_X6_item l g (q_a0 := q_queue) (n_a0 := 720) (f_a0 := f_queue) (x1 := x2) (u0 := u6) hu6 _) 2 gX2_spread_X6_item_n46 rfl rfl rfl (List.mem_of_getElem? (i := 8) rfl) (List.mem_of_getElem? (i := 18) rfl) (List.mem_of_getElem? (i := 16) rfl) hd_X6_item ⟨Nat.le_of_ble_eq_true rfl, Nat.le_of_ble_eq_true rfl⟩ hP hD hS [3] rfl rfl rfl hl.1 rfl (Nat.le_of_ble_eq_true rfl) ⟨Nat.zero_le _, Nat.zero_le _⟩ dX2_spread_58) hP hD hS [3] [0, 1, 2, 4, 5, 6, 7, 8, 9, 10] rfl rfl rfl (by decide) (fun H locs hP hD hS => ?_)
        have hP : va_P g.1 vwCl [(q_this, .inr (2, [.ref q_shore, .int v_safe, .ref q_moons, .ref q_firsts, .ref q_queue, .int v_queued, .int v_from])), (q_moons, .inl (g.2.1, 720, .inl f_moons)), (q_firsts, .inl (g.2.1, 720, .inl f_firsts)), (q_shore, .inr (3, [.ref q_shore_told, .ref q_shore_ways])), (q_shore_told, .inr (4, [.int v_shore_told_keepers, .int v_shore_told_hates, .int v_shore_told_sight, .int v_shore_told_sightTold, .ref q_shore_told_flashes, .ref q_shore_told_haters])), (q_shore_ways, .inr (5, [.int v_shore_ways_rocks, .int v_shore_ways_many, .ref q_shore_ways_keepers, .ref q_shore_ways_changed, .ref q_shore_ways_row])), (q_shore_ways_keepers, .inl (g.2.1, 4320, .inl f_shore_ways_keepers)), (q_shore_told_haters, .inl (g.2.1, 6, .inl f_shore_told_haters)), (q_shore_ways_changed, .inl (g.2.1, 3600, .inl f_shore_ways_changed)), (q_shore_told_flashes, .inl (g.2.1, 6, .inl f_shore_told_flashes)), (q_queue, .inl (g.2.1, 720, .inl f_queue))] H := hP
        have hD : va_D A [(q_this, .inr (2, [.ref q_shore, .int v_safe, .ref q_moons, .ref q_firsts, .ref q_queue, .int v_queued, .int v_from])), (q_moons, .inl (g.2.1, 720, .inl f_moons)), (q_firsts, .inl (g.2.1, 720, .inl f_firsts)), (q_shore, .inr (3, [.ref q_shore_told, .ref q_shore_ways])), (q_shore_told, .inr (4, [.int v_shore_told_keepers, .int v_shore_told_hates, .int v_shore_told_sight, .int v_shore_told_sightTold, .ref q_shore_told_flashes, .ref q_shore_told_haters])), (q_shore_ways, .inr (5, [.int v_shore_ways_rocks, .int v_shore_ways_many, .ref q_shore_ways_keepers, .ref q_shore_ways_changed, .ref q_shore_ways_row])), (q_shore_ways_keepers, .inl (g.2.1, 4320, .inl f_shore_ways_keepers)), (q_shore_told_haters, .inl (g.2.1, 6, .inl f_shore_told_haters)), (q_shore_ways_changed, .inl (g.2.1, 3600, .inl f_shore_ways_changed)), (q_shore_told_flashes, .inl (g.2.1, 6, .inl f_shore_told_flashes)), (q_queue, .inl (g.2.1, 720, .inl f_queue))] := hD
        obtain ⟨u7, hu7, hres⟩ := bd hres
        refine k_v C0 (run_V (As := [.int u6]) (rest := []) C0 (c_X2_step l g (q_this := q_this) (q_shore := q_shore) (q_moons := q_moons) (q_firsts := q_firsts) (q_queue := q_queue) (q_shore_told := q_shore_told) (q_shore_ways := q_shore_ways) (q_shore_told_flashes := q_shore_told_flashes) (q_shore_told_haters := q_shore_told_haters) (q_shore_ways_keepers := q_shore_ways_keepers) (q_shore_ways_changed := q_shore_ways_changed) (q_shore_ways_row := q_shore_ways_row) (v_safe := v_safe) (v_queued := v_queued) (v_from := v_from) (v_shore_told_keepers := v_shore_told_keepers) (v_shore_told_hates := v_shore_told_hates) (v_shore_told_sight := v_shore_told_sight) (v_shore_told_sightTold := v_shore_told_sightTold) (v_shore_ways_rocks := v_shore_ways_rocks) (v_shore_ways_many := v_shore_ways_many) (f_shore_ways_keepers := f_shore_ways_keepers) (f_shore_told_haters := f_shore_told_haters) (f_moons := f_moons) (f_shore_ways_changed := f_shore_ways_changed) (f_shore_told_flashes := f_shore_told_flashes) (f_firsts := f_firsts) (f_queue := f_queue) (x1 := u6) (u0 := u7) hu7 _) 1 gX2_spread_X2_step rfl rfl rfl hd_X2_step ⟨Nat.le_of_ble_eq_true rfl, Nat.le_of_ble_eq_true rfl⟩ hP hD hS [0, 3, 4, 5, 6, 7, 1, 8, 9, 2, 10] rfl rfl 0 2 rfl rfl rfl hl.1 rfl (Nat.le_of_ble_eq_true rfl) ⟨Nat.zero_le _, Nat.zero_le _⟩ dX2_spread_61) hP hD hS [0, 3, 4, 5, 6, 7, 1, 8, 9, 2, 10] [] rfl rfl rfl (by decide) (fun H locs hP hD hS => ?_)
        have hP : va_P g.1 vwCl [(q_this, .inr (2, [.ref q_shore, .int v_safe, .ref q_moons, .ref q_firsts, .ref q_queue, .int u7.1, .int v_from])), (q_shore, .inr (3, [.ref q_shore_told, .ref q_shore_ways])), (q_shore_told, .inr (4, [.int v_shore_told_keepers, .int v_shore_told_hates, .int v_shore_told_sight, .int v_shore_told_sightTold, .ref q_shore_told_flashes, .ref q_shore_told_haters])), (q_shore_ways, .inr (5, [.int v_shore_ways_rocks, .int v_shore_ways_many, .ref q_shore_ways_keepers, .ref q_shore_ways_changed, .ref q_shore_ways_row])), (q_shore_ways_keepers, .inl (g.2.1, 4320, .inl f_shore_ways_keepers)), (q_shore_told_haters, .inl (g.2.1, 6, .inl f_shore_told_haters)), (q_moons, .inl (g.2.1, 720, .inl u7.2.1)), (q_shore_ways_changed, .inl (g.2.1, 3600, .inl f_shore_ways_changed)), (q_shore_told_flashes, .inl (g.2.1, 6, .inl f_shore_told_flashes)), (q_firsts, .inl (g.2.1, 720, .inl u7.2.2.1)), (q_queue, .inl (g.2.1, 720, .inl u7.2.2.2))] H := hP
        have hD : va_D A [(q_this, .inr (2, [.ref q_shore, .int v_safe, .ref q_moons, .ref q_firsts, .ref q_queue, .int u7.1, .int v_from])), (q_shore, .inr (3, [.ref q_shore_told, .ref q_shore_ways])), (q_shore_told, .inr (4, [.int v_shore_told_keepers, .int v_shore_told_hates, .int v_shore_told_sight, .int v_shore_told_sightTold, .ref q_shore_told_flashes, .ref q_shore_told_haters])), (q_shore_ways, .inr (5, [.int v_shore_ways_rocks, .int v_shore_ways_many, .ref q_shore_ways_keepers, .ref q_shore_ways_changed, .ref q_shore_ways_row])), (q_shore_ways_keepers, .inl (g.2.1, 4320, .inl f_shore_ways_keepers)), (q_shore_told_haters, .inl (g.2.1, 6, .inl f_shore_told_haters)), (q_moons, .inl (g.2.1, 720, .inl u7.2.1)), (q_shore_ways_changed, .inl (g.2.1, 3600, .inl f_shore_ways_changed)), (q_shore_told_flashes, .inl (g.2.1, 6, .inl f_shore_told_flashes)), (q_firsts, .inl (g.2.1, 720, .inl u7.2.2.1)), (q_queue, .inl (g.2.1, 720, .inl u7.2.2.2))] := hD
        refine lv_iinc (v := (x2 + 1)) (lv' := [(2, .int (x2 + 1)), (0, .ref q_this)]) hx hb dX2_spread_64 hl (k := 1) rfl rfl (by decide) rfl (fun ls hl => ?_)
        refine lv_goto (tgt := 37) hx hb dX2_spread_67 (by decide) ?_
        have hP : va_P g.1 vwCl [(q_this, .inr (2, [.ref q_shore, .int v_safe, .ref q_moons, .ref q_firsts, .ref q_queue, .int u7.1, .int v_from])), (q_moons, .inl (g.2.1, 720, .inl u7.2.1)), (q_firsts, .inl (g.2.1, 720, .inl u7.2.2.1)), (q_queue, .inl (g.2.1, 720, .inl u7.2.2.2)), (q_shore, .inr (3, [.ref q_shore_told, .ref q_shore_ways])), (q_shore_told, .inr (4, [.int v_shore_told_keepers, .int v_shore_told_hates, .int v_shore_told_sight, .int v_shore_told_sightTold, .ref q_shore_told_flashes, .ref q_shore_told_haters])), (q_shore_ways, .inr (5, [.int v_shore_ways_rocks, .int v_shore_ways_many, .ref q_shore_ways_keepers, .ref q_shore_ways_changed, .ref q_shore_ways_row])), (q_shore_ways_keepers, .inl (g.2.1, 4320, .inl f_shore_ways_keepers)), (q_shore_told_haters, .inl (g.2.1, 6, .inl f_shore_told_haters)), (q_shore_ways_changed, .inl (g.2.1, 3600, .inl f_shore_ways_changed)), (q_shore_told_flashes, .inl (g.2.1, 6, .inl f_shore_told_flashes))] H := hP.sub [0, 6, 9, 10, 1, 2, 3, 4, 5, 7, 8] rfl
        have hD : va_D A [(q_this, .inr (2, [.ref q_shore, .int v_safe, .ref q_moons, .ref q_firsts, .ref q_queue, .int u7.1, .int v_from])), (q_moons, .inl (g.2.1, 720, .inl u7.2.1)), (q_firsts, .inl (g.2.1, 720, .inl u7.2.2.1)), (q_queue, .inl (g.2.1, 720, .inl u7.2.2.2)), (q_shore, .inr (3, [.ref q_shore_told, .ref q_shore_ways])), (q_shore_told, .inr (4, [.int v_shore_told_keepers, .int v_shore_told_hates, .int v_shore_told_sight, .int v_shore_told_sightTold, .ref q_shore_told_flashes, .ref q_shore_told_haters])), (q_shore_ways, .inr (5, [.int v_shore_ways_rocks, .int v_shore_ways_many, .ref q_shore_ways_keepers, .ref q_shore_ways_changed, .ref q_shore_ways_row])), (q_shore_ways_keepers, .inl (g.2.1, 4320, .inl f_shore_ways_keepers)), (q_shore_told_haters, .inl (g.2.1, 6, .inl f_shore_told_haters)), (q_shore_ways_changed, .inl (g.2.1, 3600, .inl f_shore_ways_changed)), (q_shore_told_flashes, .inl (g.2.1, 6, .inl f_shore_told_flashes))] := hD.sub [0, 6, 9, 10, 1, 2, 3, 4, 5, 7, 8] (by decide) rfl
        have hl : lv_has ls 3 [(0, .ref q_this), (2, .int (x2 + 1))] := lv_sub hl [1, 0] rfl
        exact ih hP hD hS hl hres
set_option maxHeartbeats 4000000 in
set_option maxRecDepth 100000 in
theorem c_X2_spread (l : Launch) (g : gG) {q_this q_shore q_moons q_firsts q_queue q_shore_told q_shore_ways q_shore_told_flashes q_shore_told_haters q_shore_ways_keepers q_shore_ways_changed q_shore_ways_row : Nat} {v_safe : Int32} {v_queued : Int32} {v_from : Int32} {f_moons : Nat → Int32} {f_firsts : Nat → Int32} {f_queue : Nat → Int32} {v_shore_told_keepers : Int32} {v_shore_told_hates : Int32} {v_shore_told_sight : Int32} {v_shore_told_sightTold : Int32} {v_shore_ways_rocks : Int32} {v_shore_ways_many : Int32} {f_shore_ways_keepers : Nat → Int32} {f_shore_told_haters : Nat → Int32} {f_shore_ways_changed : Nat → Int32} {f_shore_told_flashes : Nat → Int32} {x1 : Int32} {u0 : Int32 × Int32 × (Nat → Int32) × (Nat → Int32) × (Nat → Int32)} (hres : f_X2_spread v_safe v_queued v_from f_moons f_firsts f_queue v_shore_told_keepers v_shore_told_sight f_shore_ways_keepers f_shore_told_haters f_shore_ways_changed f_shore_told_flashes x1 = some u0) : Cv l g yX2_spread wsX2_spread rm_X2_spread [.ref q_this, .int x1] [(q_this, .inr (2, [.ref q_shore, .int v_safe, .ref q_moons, .ref q_firsts, .ref q_queue, .int v_queued, .int v_from])), (q_moons, .inl (g.2.1, 720, .inl f_moons)), (q_firsts, .inl (g.2.1, 720, .inl f_firsts)), (q_queue, .inl (g.2.1, 720, .inl f_queue)), (q_shore, .inr (3, [.ref q_shore_told, .ref q_shore_ways])), (q_shore_told, .inr (4, [.int v_shore_told_keepers, .int v_shore_told_hates, .int v_shore_told_sight, .int v_shore_told_sightTold, .ref q_shore_told_flashes, .ref q_shore_told_haters])), (q_shore_ways, .inr (5, [.int v_shore_ways_rocks, .int v_shore_ways_many, .ref q_shore_ways_keepers, .ref q_shore_ways_changed, .ref q_shore_ways_row])), (q_shore_ways_keepers, .inl (g.2.1, 4320, .inl f_shore_ways_keepers)), (q_shore_told_haters, .inl (g.2.1, 6, .inl f_shore_told_haters)), (q_shore_ways_changed, .inl (g.2.1, 3600, .inl f_shore_ways_changed)), (q_shore_told_flashes, .inl (g.2.1, 6, .inl f_shore_told_flashes))] [(q_this, .inr (2, [.ref q_shore, .int v_safe, .ref q_moons, .ref q_firsts, .ref q_queue, .int u0.1, .int u0.2.1])), (q_moons, .inl (g.2.1, 720, .inl u0.2.2.1)), (q_firsts, .inl (g.2.1, 720, .inl u0.2.2.2.1)), (q_queue, .inl (g.2.1, 720, .inl u0.2.2.2.2)), (q_shore, .inr (3, [.ref q_shore_told, .ref q_shore_ways])), (q_shore_told, .inr (4, [.int v_shore_told_keepers, .int v_shore_told_hates, .int v_shore_told_sight, .int v_shore_told_sightTold, .ref q_shore_told_flashes, .ref q_shore_told_haters])), (q_shore_ways, .inr (5, [.int v_shore_ways_rocks, .int v_shore_ways_many, .ref q_shore_ways_keepers, .ref q_shore_ways_changed, .ref q_shore_ways_row])), (q_shore_ways_keepers, .inl (g.2.1, 4320, .inl f_shore_ways_keepers)), (q_shore_told_haters, .inl (g.2.1, 6, .inl f_shore_told_haters)), (q_shore_ways_changed, .inl (g.2.1, 3600, .inl f_shore_ways_changed)), (q_shore_told_flashes, .inl (g.2.1, 6, .inl f_shore_told_flashes))] := by
  intro sz
  refine gBody (Qf := fun A => gQv g [(q_this, .inr (2, [.ref q_shore, .int v_safe, .ref q_moons, .ref q_firsts, .ref q_queue, .int u0.1, .int u0.2.1])), (q_moons, .inl (g.2.1, 720, .inl u0.2.2.1)), (q_firsts, .inl (g.2.1, 720, .inl u0.2.2.2.1)), (q_queue, .inl (g.2.1, 720, .inl u0.2.2.2.2)), (q_shore, .inr (3, [.ref q_shore_told, .ref q_shore_ways])), (q_shore_told, .inr (4, [.int v_shore_told_keepers, .int v_shore_told_hates, .int v_shore_told_sight, .int v_shore_told_sightTold, .ref q_shore_told_flashes, .ref q_shore_told_haters])), (q_shore_ways, .inr (5, [.int v_shore_ways_rocks, .int v_shore_ways_many, .ref q_shore_ways_keepers, .ref q_shore_ways_changed, .ref q_shore_ways_row])), (q_shore_ways_keepers, .inl (g.2.1, 4320, .inl f_shore_ways_keepers)), (q_shore_told_haters, .inl (g.2.1, 6, .inl f_shore_told_haters)), (q_shore_ways_changed, .inl (g.2.1, 3600, .inl f_shore_ways_changed)), (q_shore_told_flashes, .inl (g.2.1, 6, .inl f_shore_told_flashes))] A) (cc := cX2_spread) (maxL := 3) (ret := none) (own := RX2) (by decide +kernel) rfl rfl (Nat.le_of_ble_eq_true rfl) ?_
  intro p e s m args below meth c A C0 H hS hD hP ls hl
  obtain ⟨hx, hb, hml, hown, hts, hr, hlk, hN, hK, hF, hA⟩ := id C0
  have hl : lv_has ls 3 [(0, .ref q_this), (1, .int x1)] := hl
  unfold f_X2_spread at hres
  refine lv_iload_n hx hb dX2_spread_0 rfl (lv_at hl 1 rfl) ?_
  refine lv_aload_n hx hb dX2_spread_1 rfl (lv_at hl 0 rfl) ?_
  refine va_get (D := g.1) (ci := 2) (v := .int v_from) (C := RX2) (T := TX2) (N := 7) hx hb hts in_X2_spread_X2 hown hK hP 0 rfl rfl 6 (by decide) (hts (.fieldLink RX2 21 "LightKeepers$Search" "from" "I") (List.mem_of_getElem? (i := 1) rfl)) (fun _ h9 => h9) rfl dX2_spread_2 ?_
  refine lv_icmp_ne (tgt := 9) hx hb dX2_spread_5 (by decide) (fun c1 => ?_) (fun c1 => ?_)
  · have hres := it_f hres c1
    refine lv_aload_n hx hb dX2_spread_9 rfl (lv_at hl 0 rfl) ?_
    refine lv_iload_n hx hb dX2_spread_10 rfl (lv_at hl 1 rfl) ?_
    refine va_put (D := g.1) (ci := 2) (v := .int x1) (ty := .int) (C := RX2) (T := TX2) (N := 7) hx hb hts in_X2_spread_X2 tyX2 tyX2_ok nmX2 hown hK hP hD hS 0 rfl rfl 6 (by decide) (hts (.fieldLink RX2 21 "LightKeepers$Search" "from" "I") (List.mem_of_getElem? (i := 1) rfl)) (fun _ h9 => h9) rfl (tyX2_ok 6 (by decide)) rfl rfl (Nat.le_of_ble_eq_true rfl) dX2_spread_11 (fun H locs hP hD hS => ?_)
    have hP : va_P g.1 vwCl [(q_this, .inr (2, [.ref q_shore, .int v_safe, .ref q_moons, .ref q_firsts, .ref q_queue, .int v_queued, .int x1])), (q_moons, .inl (g.2.1, 720, .inl f_moons)), (q_firsts, .inl (g.2.1, 720, .inl f_firsts)), (q_queue, .inl (g.2.1, 720, .inl f_queue)), (q_shore, .inr (3, [.ref q_shore_told, .ref q_shore_ways])), (q_shore_told, .inr (4, [.int v_shore_told_keepers, .int v_shore_told_hates, .int v_shore_told_sight, .int v_shore_told_sightTold, .ref q_shore_told_flashes, .ref q_shore_told_haters])), (q_shore_ways, .inr (5, [.int v_shore_ways_rocks, .int v_shore_ways_many, .ref q_shore_ways_keepers, .ref q_shore_ways_changed, .ref q_shore_ways_row])), (q_shore_ways_keepers, .inl (g.2.1, 4320, .inl f_shore_ways_keepers)), (q_shore_told_haters, .inl (g.2.1, 6, .inl f_shore_told_haters)), (q_shore_ways_changed, .inl (g.2.1, 3600, .inl f_shore_ways_changed)), (q_shore_told_flashes, .inl (g.2.1, 6, .inl f_shore_told_flashes))] H := hP
    have hD : va_D A [(q_this, .inr (2, [.ref q_shore, .int v_safe, .ref q_moons, .ref q_firsts, .ref q_queue, .int v_queued, .int x1])), (q_moons, .inl (g.2.1, 720, .inl f_moons)), (q_firsts, .inl (g.2.1, 720, .inl f_firsts)), (q_queue, .inl (g.2.1, 720, .inl f_queue)), (q_shore, .inr (3, [.ref q_shore_told, .ref q_shore_ways])), (q_shore_told, .inr (4, [.int v_shore_told_keepers, .int v_shore_told_hates, .int v_shore_told_sight, .int v_shore_told_sightTold, .ref q_shore_told_flashes, .ref q_shore_told_haters])), (q_shore_ways, .inr (5, [.int v_shore_ways_rocks, .int v_shore_ways_many, .ref q_shore_ways_keepers, .ref q_shore_ways_changed, .ref q_shore_ways_row])), (q_shore_ways_keepers, .inl (g.2.1, 4320, .inl f_shore_ways_keepers)), (q_shore_told_haters, .inl (g.2.1, 6, .inl f_shore_told_haters)), (q_shore_ways_changed, .inl (g.2.1, 3600, .inl f_shore_ways_changed)), (q_shore_told_flashes, .inl (g.2.1, 6, .inl f_shore_told_flashes))] := hD
    refine lv_aload_n hx hb dX2_spread_14 rfl (lv_at hl 0 rfl) ?_
    refine lv_iconst (v := 0) hx hb dX2_spread_15 (by decide) ?_
    refine va_put (D := g.1) (ci := 2) (v := .int 0) (ty := .int) (C := RX2) (T := TX2) (N := 7) hx hb hts in_X2_spread_X2 tyX2 tyX2_ok nmX2 hown hK hP hD hS 0 rfl rfl 5 (by decide) (hts (.fieldLink RX2 33 "LightKeepers$Search" "queued" "I") (List.mem_of_getElem? (i := 2) rfl)) (fun _ h9 => h9) rfl (tyX2_ok 5 (by decide)) rfl rfl (Nat.le_of_ble_eq_true rfl) dX2_spread_16 (fun H locs hP hD hS => ?_)
    have hP : va_P g.1 vwCl [(q_this, .inr (2, [.ref q_shore, .int v_safe, .ref q_moons, .ref q_firsts, .ref q_queue, .int 0, .int x1])), (q_moons, .inl (g.2.1, 720, .inl f_moons)), (q_firsts, .inl (g.2.1, 720, .inl f_firsts)), (q_queue, .inl (g.2.1, 720, .inl f_queue)), (q_shore, .inr (3, [.ref q_shore_told, .ref q_shore_ways])), (q_shore_told, .inr (4, [.int v_shore_told_keepers, .int v_shore_told_hates, .int v_shore_told_sight, .int v_shore_told_sightTold, .ref q_shore_told_flashes, .ref q_shore_told_haters])), (q_shore_ways, .inr (5, [.int v_shore_ways_rocks, .int v_shore_ways_many, .ref q_shore_ways_keepers, .ref q_shore_ways_changed, .ref q_shore_ways_row])), (q_shore_ways_keepers, .inl (g.2.1, 4320, .inl f_shore_ways_keepers)), (q_shore_told_haters, .inl (g.2.1, 6, .inl f_shore_told_haters)), (q_shore_ways_changed, .inl (g.2.1, 3600, .inl f_shore_ways_changed)), (q_shore_told_flashes, .inl (g.2.1, 6, .inl f_shore_told_flashes))] H := hP
    have hD : va_D A [(q_this, .inr (2, [.ref q_shore, .int v_safe, .ref q_moons, .ref q_firsts, .ref q_queue, .int 0, .int x1])), (q_moons, .inl (g.2.1, 720, .inl f_moons)), (q_firsts, .inl (g.2.1, 720, .inl f_firsts)), (q_queue, .inl (g.2.1, 720, .inl f_queue)), (q_shore, .inr (3, [.ref q_shore_told, .ref q_shore_ways])), (q_shore_told, .inr (4, [.int v_shore_told_keepers, .int v_shore_told_hates, .int v_shore_told_sight, .int v_shore_told_sightTold, .ref q_shore_told_flashes, .ref q_shore_told_haters])), (q_shore_ways, .inr (5, [.int v_shore_ways_rocks, .int v_shore_ways_many, .ref q_shore_ways_keepers, .ref q_shore_ways_changed, .ref q_shore_ways_row])), (q_shore_ways_keepers, .inl (g.2.1, 4320, .inl f_shore_ways_keepers)), (q_shore_told_haters, .inl (g.2.1, 6, .inl f_shore_told_haters)), (q_shore_ways_changed, .inl (g.2.1, 3600, .inl f_shore_ways_changed)), (q_shore_told_flashes, .inl (g.2.1, 6, .inl f_shore_told_flashes))] := hD
    refine lv_aload_n hx hb dX2_spread_19 rfl (lv_at hl 0 rfl) ?_
    refine va_get (D := g.1) (ci := 2) (v := .ref q_moons) (C := RX2) (T := TX2) (N := 7) hx hb hts in_X2_spread_X2 hown hK hP 0 rfl rfl 2 (by decide) (hts (.fieldLink RX2 9 "LightKeepers$Search" "moons" "[I") (List.mem_of_getElem? (i := 3) rfl)) (fun _ h9 => h9) rfl dX2_spread_20 ?_
    refine lv_bipush (v := (-9)) hx hb dX2_spread_23 (by decide) ?_
    obtain ⟨u2, hu2, hres⟩ := bd hres
    refine k_v C0 (run_S (As := [.ref q_moons, .int (-9)]) (rest := []) C0 (c_J7_fill_53178 l g (q_a0 := q_moons) (n_a0 := 720) (f_a0 := f_moons) (x1 := (-9)) (u0 := u2) hu2 _) 2 gX2_spread_J7_fill_53178 rfl rfl rfl hd_J7_fill_53178 ⟨Nat.le_of_ble_eq_true rfl, Nat.le_of_ble_eq_true rfl⟩ hP hD hS [1] rfl rfl rfl hl.1 rfl (Nat.le_of_ble_eq_true rfl) ⟨Nat.zero_le _, Nat.zero_le _⟩ dX2_spread_25) hP hD hS [1] [0, 2, 3, 4, 5, 6, 7, 8, 9, 10] rfl rfl rfl (by decide) (fun H locs hP hD hS => ?_)
    have hP : va_P g.1 vwCl [(q_this, .inr (2, [.ref q_shore, .int v_safe, .ref q_moons, .ref q_firsts, .ref q_queue, .int 0, .int x1])), (q_firsts, .inl (g.2.1, 720, .inl f_firsts)), (q_queue, .inl (g.2.1, 720, .inl f_queue)), (q_shore, .inr (3, [.ref q_shore_told, .ref q_shore_ways])), (q_shore_told, .inr (4, [.int v_shore_told_keepers, .int v_shore_told_hates, .int v_shore_told_sight, .int v_shore_told_sightTold, .ref q_shore_told_flashes, .ref q_shore_told_haters])), (q_shore_ways, .inr (5, [.int v_shore_ways_rocks, .int v_shore_ways_many, .ref q_shore_ways_keepers, .ref q_shore_ways_changed, .ref q_shore_ways_row])), (q_shore_ways_keepers, .inl (g.2.1, 4320, .inl f_shore_ways_keepers)), (q_shore_told_haters, .inl (g.2.1, 6, .inl f_shore_told_haters)), (q_shore_ways_changed, .inl (g.2.1, 3600, .inl f_shore_ways_changed)), (q_shore_told_flashes, .inl (g.2.1, 6, .inl f_shore_told_flashes)), (q_moons, .inl (g.2.1, 720, .inl u2))] H := hP
    have hD : va_D A [(q_this, .inr (2, [.ref q_shore, .int v_safe, .ref q_moons, .ref q_firsts, .ref q_queue, .int 0, .int x1])), (q_firsts, .inl (g.2.1, 720, .inl f_firsts)), (q_queue, .inl (g.2.1, 720, .inl f_queue)), (q_shore, .inr (3, [.ref q_shore_told, .ref q_shore_ways])), (q_shore_told, .inr (4, [.int v_shore_told_keepers, .int v_shore_told_hates, .int v_shore_told_sight, .int v_shore_told_sightTold, .ref q_shore_told_flashes, .ref q_shore_told_haters])), (q_shore_ways, .inr (5, [.int v_shore_ways_rocks, .int v_shore_ways_many, .ref q_shore_ways_keepers, .ref q_shore_ways_changed, .ref q_shore_ways_row])), (q_shore_ways_keepers, .inl (g.2.1, 4320, .inl f_shore_ways_keepers)), (q_shore_told_haters, .inl (g.2.1, 6, .inl f_shore_told_haters)), (q_shore_ways_changed, .inl (g.2.1, 3600, .inl f_shore_ways_changed)), (q_shore_told_flashes, .inl (g.2.1, 6, .inl f_shore_told_flashes)), (q_moons, .inl (g.2.1, 720, .inl u2))] := hD
    refine lv_aload_n hx hb dX2_spread_28 rfl (lv_at hl 0 rfl) ?_
    refine lv_iload_n hx hb dX2_spread_29 rfl (lv_at hl 1 rfl) ?_
    refine lv_iconst (v := 0) hx hb dX2_spread_30 (by decide) ?_
    refine lv_iconst (v := 0) hx hb dX2_spread_31 (by decide) ?_
    obtain ⟨u3, hu3, hres⟩ := bd hres
    refine k_v C0 (run_V (As := [.int x1, .int 0, .int 0]) (rest := []) C0 (c_X2_enter l g (q_this := q_this) (q_shore := q_shore) (q_moons := q_moons) (q_firsts := q_firsts) (q_queue := q_queue) (v_safe := v_safe) (v_queued := 0) (v_from := x1) (f_moons := u2) (f_firsts := f_firsts) (f_queue := f_queue) (x1 := x1) (x2 := 0) (x3 := 0) (u0 := u3) hu3 _) 3 gX2_spread_X2_enter rfl rfl rfl hd_X2_enter ⟨Nat.le_of_ble_eq_true rfl, Nat.le_of_ble_eq_true rfl⟩ hP hD hS [0, 10, 1, 2] rfl rfl 0 2 rfl rfl rfl hl.1 rfl (Nat.le_of_ble_eq_true rfl) ⟨Nat.zero_le _, Nat.zero_le _⟩ dX2_spread_32) hP hD hS [0, 10, 1, 2] [3, 4, 5, 6, 7, 8, 9] rfl rfl rfl (by decide) (fun H locs hP hD hS => ?_)
    have hP : va_P g.1 vwCl [(q_shore, .inr (3, [.ref q_shore_told, .ref q_shore_ways])), (q_shore_told, .inr (4, [.int v_shore_told_keepers, .int v_shore_told_hates, .int v_shore_told_sight, .int v_shore_told_sightTold, .ref q_shore_told_flashes, .ref q_shore_told_haters])), (q_shore_ways, .inr (5, [.int v_shore_ways_rocks, .int v_shore_ways_many, .ref q_shore_ways_keepers, .ref q_shore_ways_changed, .ref q_shore_ways_row])), (q_shore_ways_keepers, .inl (g.2.1, 4320, .inl f_shore_ways_keepers)), (q_shore_told_haters, .inl (g.2.1, 6, .inl f_shore_told_haters)), (q_shore_ways_changed, .inl (g.2.1, 3600, .inl f_shore_ways_changed)), (q_shore_told_flashes, .inl (g.2.1, 6, .inl f_shore_told_flashes)), (q_this, .inr (2, [.ref q_shore, .int v_safe, .ref q_moons, .ref q_firsts, .ref q_queue, .int u3.1, .int x1])), (q_moons, .inl (g.2.1, 720, .inl u3.2.1)), (q_firsts, .inl (g.2.1, 720, .inl u3.2.2.1)), (q_queue, .inl (g.2.1, 720, .inl u3.2.2.2))] H := hP
    have hD : va_D A [(q_shore, .inr (3, [.ref q_shore_told, .ref q_shore_ways])), (q_shore_told, .inr (4, [.int v_shore_told_keepers, .int v_shore_told_hates, .int v_shore_told_sight, .int v_shore_told_sightTold, .ref q_shore_told_flashes, .ref q_shore_told_haters])), (q_shore_ways, .inr (5, [.int v_shore_ways_rocks, .int v_shore_ways_many, .ref q_shore_ways_keepers, .ref q_shore_ways_changed, .ref q_shore_ways_row])), (q_shore_ways_keepers, .inl (g.2.1, 4320, .inl f_shore_ways_keepers)), (q_shore_told_haters, .inl (g.2.1, 6, .inl f_shore_told_haters)), (q_shore_ways_changed, .inl (g.2.1, 3600, .inl f_shore_ways_changed)), (q_shore_told_flashes, .inl (g.2.1, 6, .inl f_shore_told_flashes)), (q_this, .inr (2, [.ref q_shore, .int v_safe, .ref q_moons, .ref q_firsts, .ref q_queue, .int u3.1, .int x1])), (q_moons, .inl (g.2.1, 720, .inl u3.2.1)), (q_firsts, .inl (g.2.1, 720, .inl u3.2.2.1)), (q_queue, .inl (g.2.1, 720, .inl u3.2.2.2))] := hD
    refine lv_iconst (v := 0) hx hb dX2_spread_35 (by decide) ?_
    refine lv_istore_n (lv' := [(2, .int 0), (0, .ref q_this), (1, .int x1)]) hx hb dX2_spread_36 rfl hl (by decide) rfl (fun ls hl => ?_)
    have hP : va_P g.1 vwCl [(q_this, .inr (2, [.ref q_shore, .int v_safe, .ref q_moons, .ref q_firsts, .ref q_queue, .int u3.1, .int x1])), (q_moons, .inl (g.2.1, 720, .inl u3.2.1)), (q_firsts, .inl (g.2.1, 720, .inl u3.2.2.1)), (q_queue, .inl (g.2.1, 720, .inl u3.2.2.2)), (q_shore, .inr (3, [.ref q_shore_told, .ref q_shore_ways])), (q_shore_told, .inr (4, [.int v_shore_told_keepers, .int v_shore_told_hates, .int v_shore_told_sight, .int v_shore_told_sightTold, .ref q_shore_told_flashes, .ref q_shore_told_haters])), (q_shore_ways, .inr (5, [.int v_shore_ways_rocks, .int v_shore_ways_many, .ref q_shore_ways_keepers, .ref q_shore_ways_changed, .ref q_shore_ways_row])), (q_shore_ways_keepers, .inl (g.2.1, 4320, .inl f_shore_ways_keepers)), (q_shore_told_haters, .inl (g.2.1, 6, .inl f_shore_told_haters)), (q_shore_ways_changed, .inl (g.2.1, 3600, .inl f_shore_ways_changed)), (q_shore_told_flashes, .inl (g.2.1, 6, .inl f_shore_told_flashes))] H := hP.sub [7, 8, 9, 10, 0, 1, 2, 3, 4, 5, 6] rfl
    have hD : va_D A [(q_this, .inr (2, [.ref q_shore, .int v_safe, .ref q_moons, .ref q_firsts, .ref q_queue, .int u3.1, .int x1])), (q_moons, .inl (g.2.1, 720, .inl u3.2.1)), (q_firsts, .inl (g.2.1, 720, .inl u3.2.2.1)), (q_queue, .inl (g.2.1, 720, .inl u3.2.2.2)), (q_shore, .inr (3, [.ref q_shore_told, .ref q_shore_ways])), (q_shore_told, .inr (4, [.int v_shore_told_keepers, .int v_shore_told_hates, .int v_shore_told_sight, .int v_shore_told_sightTold, .ref q_shore_told_flashes, .ref q_shore_told_haters])), (q_shore_ways, .inr (5, [.int v_shore_ways_rocks, .int v_shore_ways_many, .ref q_shore_ways_keepers, .ref q_shore_ways_changed, .ref q_shore_ways_row])), (q_shore_ways_keepers, .inl (g.2.1, 4320, .inl f_shore_ways_keepers)), (q_shore_told_haters, .inl (g.2.1, 6, .inl f_shore_told_haters)), (q_shore_ways_changed, .inl (g.2.1, 3600, .inl f_shore_ways_changed)), (q_shore_told_flashes, .inl (g.2.1, 6, .inl f_shore_told_flashes))] := hD.sub [7, 8, 9, 10, 0, 1, 2, 3, 4, 5, 6] (by decide) rfl
    have hl : lv_has ls 3 [(0, .ref q_this), (2, .int 0)] := lv_sub hl [1, 0] rfl
    refine w_X2_spread_L37 C0 hP hD hS hl hres (fun y8 y9 y10 y11 y12 H locs ls hP hD hS hl hres => ?_)
    cases hres
    exact ret_v C0 hP hD hS dX2_spread_70
  · have hres := it_t hres c1
    cases hres
    exact ret_v C0 hP hD hS dX2_spread_8
set_option maxHeartbeats 4000000 in
set_option maxRecDepth 100000 in
theorem c_X2_moonsTo (l : Launch) (g : gG) {q_this q_shore q_moons q_firsts q_queue : Nat} {v_safe : Int32} {v_queued : Int32} {v_from : Int32} {f_moons : Nat → Int32} {x1 : Int32} {u0 : Int32} (hres : f_X2_moonsTo f_moons x1 = some u0) : Ci l g yX2_moonsTo wsX2_moonsTo rm_X2_moonsTo [.ref q_this, .int x1] [(q_this, .inr (2, [.ref q_shore, .int v_safe, .ref q_moons, .ref q_firsts, .ref q_queue, .int v_queued, .int v_from])), (q_moons, .inl (g.2.1, 720, .inl f_moons))] [(q_this, .inr (2, [.ref q_shore, .int v_safe, .ref q_moons, .ref q_firsts, .ref q_queue, .int v_queued, .int v_from])), (q_moons, .inl (g.2.1, 720, .inl f_moons))] u0 := by
  intro sz
  refine gBody (Qf := fun A => gQi g [(q_this, .inr (2, [.ref q_shore, .int v_safe, .ref q_moons, .ref q_firsts, .ref q_queue, .int v_queued, .int v_from])), (q_moons, .inl (g.2.1, 720, .inl f_moons))] u0 A) (cc := cX2_moonsTo) (maxL := 3) (ret := (some .int)) (own := RX2) (by decide +kernel) rfl rfl (Nat.le_of_ble_eq_true rfl) ?_
  intro p e s m args below meth c A C0 H hS hD hP ls hl
  obtain ⟨hx, hb, hml, hown, hts, hr, hlk, hN, hK, hF, hA⟩ := id C0
  have hl : lv_has ls 3 [(0, .ref q_this), (1, .int x1)] := hl
  unfold f_X2_moonsTo at hres
  refine lv_aload_n hx hb dX2_moonsTo_0 rfl (lv_at hl 0 rfl) ?_
  refine va_get (D := g.1) (ci := 2) (v := .ref q_moons) (C := RX2) (T := TX2) (N := 7) hx hb hts in_X2_moonsTo_X2 hown hK hP 0 rfl rfl 2 (by decide) (hts (.fieldLink RX2 9 "LightKeepers$Search" "moons" "[I") (List.mem_of_getElem? (i := 1) rfl)) (fun _ h9 => h9) rfl dX2_moonsTo_1 ?_
  refine lv_iload_n hx hb dX2_moonsTo_4 rfl (lv_at hl 1 rfl) ?_
  obtain ⟨u1, hu1, hres⟩ := bd hres
  refine k_i C0 (run_SN (As := [.ref q_moons, .int x1]) (rest := []) C0 (c_X6_item l g (q_a0 := q_moons) (n_a0 := 720) (f_a0 := f_moons) (x1 := x1) (u0 := u1) hu1 _) 2 gX2_moonsTo_X6_item_n46 rfl rfl rfl (List.mem_of_getElem? (i := 8) rfl) (List.mem_of_getElem? (i := 2) rfl) (List.mem_of_getElem? (i := 3) rfl) hd_X6_item ⟨Nat.le_of_ble_eq_true rfl, Nat.le_of_ble_eq_true rfl⟩ hP hD hS [1] rfl rfl rfl hl.1 rfl (Nat.le_of_ble_eq_true rfl) ⟨Nat.zero_le _, Nat.zero_le _⟩ dX2_moonsTo_5) hP hD hS [1] [0] rfl rfl rfl (by decide) (fun H locs hP hD hS => ?_)
  have hP : va_P g.1 vwCl [(q_this, .inr (2, [.ref q_shore, .int v_safe, .ref q_moons, .ref q_firsts, .ref q_queue, .int v_queued, .int v_from])), (q_moons, .inl (g.2.1, 720, .inl f_moons))] H := hP
  have hD : va_D A [(q_this, .inr (2, [.ref q_shore, .int v_safe, .ref q_moons, .ref q_firsts, .ref q_queue, .int v_queued, .int v_from])), (q_moons, .inl (g.2.1, 720, .inl f_moons))] := hD
  refine lv_istore_n (lv' := [(2, .int u1), (0, .ref q_this), (1, .int x1)]) hx hb dX2_moonsTo_8 rfl hl (by decide) rfl (fun ls hl => ?_)
  refine lv_iload_n hx hb dX2_moonsTo_9 rfl (lv_at hl 0 rfl) ?_
  refine lv_if_lt (tgt := 17) hx hb dX2_moonsTo_10 (by decide) (fun c2 => ?_) (fun c2 => ?_)
  · have hres := it_t hres c2
    refine lv_bipush (v := (-9)) hx hb dX2_moonsTo_17 (by decide) ?_
    cases hres
    exact ret_i C0 hP hD hS dX2_moonsTo_19
  · have hres := it_f hres c2
    refine lv_iload_n hx hb dX2_moonsTo_13 rfl (lv_at hl 0 rfl) ?_
    refine lv_goto (tgt := 19) hx hb dX2_moonsTo_14 (by decide) ?_
    cases hres
    exact ret_i C0 hP hD hS dX2_moonsTo_19
set_option maxHeartbeats 4000000 in
set_option maxRecDepth 100000 in
theorem c_X2_firstTo (l : Launch) (g : gG) {q_this q_shore q_moons q_firsts q_queue : Nat} {v_safe : Int32} {v_queued : Int32} {v_from : Int32} {f_firsts : Nat → Int32} {x1 : Int32} {u0 : Int32} (hres : f_X2_firstTo f_firsts x1 = some u0) : Ci l g yX2_firstTo wsX2_firstTo rm_X2_firstTo [.ref q_this, .int x1] [(q_this, .inr (2, [.ref q_shore, .int v_safe, .ref q_moons, .ref q_firsts, .ref q_queue, .int v_queued, .int v_from])), (q_firsts, .inl (g.2.1, 720, .inl f_firsts))] [(q_this, .inr (2, [.ref q_shore, .int v_safe, .ref q_moons, .ref q_firsts, .ref q_queue, .int v_queued, .int v_from])), (q_firsts, .inl (g.2.1, 720, .inl f_firsts))] u0 := by
  intro sz
  refine gBody (Qf := fun A => gQi g [(q_this, .inr (2, [.ref q_shore, .int v_safe, .ref q_moons, .ref q_firsts, .ref q_queue, .int v_queued, .int v_from])), (q_firsts, .inl (g.2.1, 720, .inl f_firsts))] u0 A) (cc := cX2_firstTo) (maxL := 2) (ret := (some .int)) (own := RX2) (by decide +kernel) rfl rfl (Nat.le_of_ble_eq_true rfl) ?_
  intro p e s m args below meth c A C0 H hS hD hP ls hl
  obtain ⟨hx, hb, hml, hown, hts, hr, hlk, hN, hK, hF, hA⟩ := id C0
  have hl : lv_has ls 2 [(0, .ref q_this), (1, .int x1)] := hl
  unfold f_X2_firstTo at hres
  refine lv_aload_n hx hb dX2_firstTo_0 rfl (lv_at hl 0 rfl) ?_
  refine va_get (D := g.1) (ci := 2) (v := .ref q_firsts) (C := RX2) (T := TX2) (N := 7) hx hb hts in_X2_firstTo_X2 hown hK hP 0 rfl rfl 3 (by decide) (hts (.fieldLink RX2 15 "LightKeepers$Search" "firsts" "[I") (List.mem_of_getElem? (i := 1) rfl)) (fun _ h9 => h9) rfl dX2_firstTo_1 ?_
  refine lv_iload_n hx hb dX2_firstTo_4 rfl (lv_at hl 1 rfl) ?_
  obtain ⟨u1, hu1, hres⟩ := bd hres
  refine k_i C0 (run_SN (As := [.ref q_firsts, .int x1]) (rest := []) C0 (c_X6_item l g (q_a0 := q_firsts) (n_a0 := 720) (f_a0 := f_firsts) (x1 := x1) (u0 := u1) hu1 _) 2 gX2_firstTo_X6_item_n46 rfl rfl rfl (List.mem_of_getElem? (i := 8) rfl) (List.mem_of_getElem? (i := 2) rfl) (List.mem_of_getElem? (i := 3) rfl) hd_X6_item ⟨Nat.le_of_ble_eq_true rfl, Nat.le_of_ble_eq_true rfl⟩ hP hD hS [1] rfl rfl rfl hl.1 rfl (Nat.le_of_ble_eq_true rfl) ⟨Nat.zero_le _, Nat.zero_le _⟩ dX2_firstTo_5) hP hD hS [1] [0] rfl rfl rfl (by decide) (fun H locs hP hD hS => ?_)
  have hP : va_P g.1 vwCl [(q_this, .inr (2, [.ref q_shore, .int v_safe, .ref q_moons, .ref q_firsts, .ref q_queue, .int v_queued, .int v_from])), (q_firsts, .inl (g.2.1, 720, .inl f_firsts))] H := hP
  have hD : va_D A [(q_this, .inr (2, [.ref q_shore, .int v_safe, .ref q_moons, .ref q_firsts, .ref q_queue, .int v_queued, .int v_from])), (q_firsts, .inl (g.2.1, 720, .inl f_firsts))] := hD
  cases hres
  exact ret_i C0 hP hD hS dX2_firstTo_8
set_option maxHeartbeats 4000000 in
set_option maxRecDepth 100000 in
theorem c_X4_become (l : Launch) (g : gG) {q_this q_flashes q_haters q_a1 q_a1_flashes q_a1_haters : Nat} {v_keepers : Int32} {v_hates : Int32} {v_sight : Int32} {v_sightTold : Int32} {v_a1_keepers : Int32} {v_a1_hates : Int32} {v_a1_sight : Int32} {v_a1_sightTold : Int32} {f_a1_flashes : Nat → Int32} {f_flashes : Nat → Int32} {f_a1_haters : Nat → Int32} {f_haters : Nat → Int32} {u0 : Int32 × Int32 × Int32 × (Nat → Int32) × (Nat → Int32)} (hres : f_X4_become v_a1_keepers v_a1_hates v_a1_sight f_a1_flashes f_flashes f_a1_haters f_haters = some u0) : Cv l g yX4_become wsX4_become rm_X4_become [.ref q_this, .ref q_a1] [(q_this, .inr (4, [.int v_keepers, .int v_hates, .int v_sight, .int v_sightTold, .ref q_flashes, .ref q_haters])), (q_a1, .inr (4, [.int v_a1_keepers, .int v_a1_hates, .int v_a1_sight, .int v_a1_sightTold, .ref q_a1_flashes, .ref q_a1_haters])), (q_a1_flashes, .inl (g.2.1, 6, .inl f_a1_flashes)), (q_flashes, .inl (g.2.1, 6, .inl f_flashes)), (q_a1_haters, .inl (g.2.1, 6, .inl f_a1_haters)), (q_haters, .inl (g.2.1, 6, .inl f_haters))] [(q_this, .inr (4, [.int u0.1, .int u0.2.1, .int u0.2.2.1, .int v_sightTold, .ref q_flashes, .ref q_haters])), (q_a1, .inr (4, [.int v_a1_keepers, .int v_a1_hates, .int v_a1_sight, .int v_a1_sightTold, .ref q_a1_flashes, .ref q_a1_haters])), (q_a1_flashes, .inl (g.2.1, 6, .inl f_a1_flashes)), (q_flashes, .inl (g.2.1, 6, .inl u0.2.2.2.1)), (q_a1_haters, .inl (g.2.1, 6, .inl f_a1_haters)), (q_haters, .inl (g.2.1, 6, .inl u0.2.2.2.2))] := by
  intro sz
  refine gBody (Qf := fun A => gQv g [(q_this, .inr (4, [.int u0.1, .int u0.2.1, .int u0.2.2.1, .int v_sightTold, .ref q_flashes, .ref q_haters])), (q_a1, .inr (4, [.int v_a1_keepers, .int v_a1_hates, .int v_a1_sight, .int v_a1_sightTold, .ref q_a1_flashes, .ref q_a1_haters])), (q_a1_flashes, .inl (g.2.1, 6, .inl f_a1_flashes)), (q_flashes, .inl (g.2.1, 6, .inl u0.2.2.2.1)), (q_a1_haters, .inl (g.2.1, 6, .inl f_a1_haters)), (q_haters, .inl (g.2.1, 6, .inl u0.2.2.2.2))] A) (cc := cX4_become) (maxL := 2) (ret := none) (own := RX4) (by decide +kernel) rfl rfl (Nat.le_of_ble_eq_true rfl) ?_
  intro p e s m args below meth c A C0 H hS hD hP ls hl
  obtain ⟨hx, hb, hml, hown, hts, hr, hlk, hN, hK, hF, hA⟩ := id C0
  have hl : lv_has ls 2 [(0, .ref q_this), (1, .ref q_a1)] := hl
  unfold f_X4_become at hres
  refine lv_aload_n hx hb dX4_become_0 rfl (lv_at hl 0 rfl) ?_
  refine lv_aload_n hx hb dX4_become_1 rfl (lv_at hl 1 rfl) ?_
  refine va_get (D := g.1) (ci := 4) (v := .int v_a1_keepers) (C := RX4) (T := TX4) (N := 6) hx hb hts in_X4_become_X4 hown hK hP 1 rfl rfl 0 (by decide) (hts (.fieldLink RX4 22 "LightKeepers$Told" "keepers" "I") (List.mem_of_getElem? (i := 1) rfl)) (fun _ h9 => h9) rfl dX4_become_2 ?_
  refine va_put (D := g.1) (ci := 4) (v := .int v_a1_keepers) (ty := .int) (C := RX4) (T := TX4) (N := 6) hx hb hts in_X4_become_X4 tyX4 tyX4_ok nmX4 hown hK hP hD hS 0 rfl rfl 0 (by decide) (hts (.fieldLink RX4 22 "LightKeepers$Told" "keepers" "I") (List.mem_of_getElem? (i := 1) rfl)) (fun _ h9 => h9) rfl (tyX4_ok 0 (by decide)) rfl rfl (Nat.le_of_ble_eq_true rfl) dX4_become_5 (fun H locs hP hD hS => ?_)
  have hP : va_P g.1 vwCl [(q_this, .inr (4, [.int v_a1_keepers, .int v_hates, .int v_sight, .int v_sightTold, .ref q_flashes, .ref q_haters])), (q_a1, .inr (4, [.int v_a1_keepers, .int v_a1_hates, .int v_a1_sight, .int v_a1_sightTold, .ref q_a1_flashes, .ref q_a1_haters])), (q_a1_flashes, .inl (g.2.1, 6, .inl f_a1_flashes)), (q_flashes, .inl (g.2.1, 6, .inl f_flashes)), (q_a1_haters, .inl (g.2.1, 6, .inl f_a1_haters)), (q_haters, .inl (g.2.1, 6, .inl f_haters))] H := hP
  have hD : va_D A [(q_this, .inr (4, [.int v_a1_keepers, .int v_hates, .int v_sight, .int v_sightTold, .ref q_flashes, .ref q_haters])), (q_a1, .inr (4, [.int v_a1_keepers, .int v_a1_hates, .int v_a1_sight, .int v_a1_sightTold, .ref q_a1_flashes, .ref q_a1_haters])), (q_a1_flashes, .inl (g.2.1, 6, .inl f_a1_flashes)), (q_flashes, .inl (g.2.1, 6, .inl f_flashes)), (q_a1_haters, .inl (g.2.1, 6, .inl f_a1_haters)), (q_haters, .inl (g.2.1, 6, .inl f_haters))] := hD
  refine lv_aload_n hx hb dX4_become_8 rfl (lv_at hl 0 rfl) ?_
  refine lv_aload_n hx hb dX4_become_9 rfl (lv_at hl 1 rfl) ?_
  refine va_get (D := g.1) (ci := 4) (v := .int v_a1_hates) (C := RX4) (T := TX4) (N := 6) hx hb hts in_X4_become_X4 hown hK hP 1 rfl rfl 1 (by decide) (hts (.fieldLink RX4 25 "LightKeepers$Told" "hates" "I") (List.mem_of_getElem? (i := 2) rfl)) (fun _ h9 => h9) rfl dX4_become_10 ?_
  refine va_put (D := g.1) (ci := 4) (v := .int v_a1_hates) (ty := .int) (C := RX4) (T := TX4) (N := 6) hx hb hts in_X4_become_X4 tyX4 tyX4_ok nmX4 hown hK hP hD hS 0 rfl rfl 1 (by decide) (hts (.fieldLink RX4 25 "LightKeepers$Told" "hates" "I") (List.mem_of_getElem? (i := 2) rfl)) (fun _ h9 => h9) rfl (tyX4_ok 1 (by decide)) rfl rfl (Nat.le_of_ble_eq_true rfl) dX4_become_13 (fun H locs hP hD hS => ?_)
  have hP : va_P g.1 vwCl [(q_this, .inr (4, [.int v_a1_keepers, .int v_a1_hates, .int v_sight, .int v_sightTold, .ref q_flashes, .ref q_haters])), (q_a1, .inr (4, [.int v_a1_keepers, .int v_a1_hates, .int v_a1_sight, .int v_a1_sightTold, .ref q_a1_flashes, .ref q_a1_haters])), (q_a1_flashes, .inl (g.2.1, 6, .inl f_a1_flashes)), (q_flashes, .inl (g.2.1, 6, .inl f_flashes)), (q_a1_haters, .inl (g.2.1, 6, .inl f_a1_haters)), (q_haters, .inl (g.2.1, 6, .inl f_haters))] H := hP
  have hD : va_D A [(q_this, .inr (4, [.int v_a1_keepers, .int v_a1_hates, .int v_sight, .int v_sightTold, .ref q_flashes, .ref q_haters])), (q_a1, .inr (4, [.int v_a1_keepers, .int v_a1_hates, .int v_a1_sight, .int v_a1_sightTold, .ref q_a1_flashes, .ref q_a1_haters])), (q_a1_flashes, .inl (g.2.1, 6, .inl f_a1_flashes)), (q_flashes, .inl (g.2.1, 6, .inl f_flashes)), (q_a1_haters, .inl (g.2.1, 6, .inl f_a1_haters)), (q_haters, .inl (g.2.1, 6, .inl f_haters))] := hD
  refine lv_aload_n hx hb dX4_become_16 rfl (lv_at hl 0 rfl) ?_
  refine lv_aload_n hx hb dX4_become_17 rfl (lv_at hl 1 rfl) ?_
  refine va_get (D := g.1) (ci := 4) (v := .int v_a1_sight) (C := RX4) (T := TX4) (N := 6) hx hb hts in_X4_become_X4 hown hK hP 1 rfl rfl 2 (by decide) (hts (.fieldLink RX4 9 "LightKeepers$Told" "sight" "I") (List.mem_of_getElem? (i := 3) rfl)) (fun _ h9 => h9) rfl dX4_become_18 ?_
  refine va_put (D := g.1) (ci := 4) (v := .int v_a1_sight) (ty := .int) (C := RX4) (T := TX4) (N := 6) hx hb hts in_X4_become_X4 tyX4 tyX4_ok nmX4 hown hK hP hD hS 0 rfl rfl 2 (by decide) (hts (.fieldLink RX4 9 "LightKeepers$Told" "sight" "I") (List.mem_of_getElem? (i := 3) rfl)) (fun _ h9 => h9) rfl (tyX4_ok 2 (by decide)) rfl rfl (Nat.le_of_ble_eq_true rfl) dX4_become_21 (fun H locs hP hD hS => ?_)
  have hP : va_P g.1 vwCl [(q_this, .inr (4, [.int v_a1_keepers, .int v_a1_hates, .int v_a1_sight, .int v_sightTold, .ref q_flashes, .ref q_haters])), (q_a1, .inr (4, [.int v_a1_keepers, .int v_a1_hates, .int v_a1_sight, .int v_a1_sightTold, .ref q_a1_flashes, .ref q_a1_haters])), (q_a1_flashes, .inl (g.2.1, 6, .inl f_a1_flashes)), (q_flashes, .inl (g.2.1, 6, .inl f_flashes)), (q_a1_haters, .inl (g.2.1, 6, .inl f_a1_haters)), (q_haters, .inl (g.2.1, 6, .inl f_haters))] H := hP
  have hD : va_D A [(q_this, .inr (4, [.int v_a1_keepers, .int v_a1_hates, .int v_a1_sight, .int v_sightTold, .ref q_flashes, .ref q_haters])), (q_a1, .inr (4, [.int v_a1_keepers, .int v_a1_hates, .int v_a1_sight, .int v_a1_sightTold, .ref q_a1_flashes, .ref q_a1_haters])), (q_a1_flashes, .inl (g.2.1, 6, .inl f_a1_flashes)), (q_flashes, .inl (g.2.1, 6, .inl f_flashes)), (q_a1_haters, .inl (g.2.1, 6, .inl f_a1_haters)), (q_haters, .inl (g.2.1, 6, .inl f_haters))] := hD
  refine lv_aload_n hx hb dX4_become_24 rfl (lv_at hl 1 rfl) ?_
  refine va_get (D := g.1) (ci := 4) (v := .ref q_a1_flashes) (C := RX4) (T := TX4) (N := 6) hx hb hts in_X4_become_X4 hown hK hP 1 rfl rfl 4 (by decide) (hts (.fieldLink RX4 15 "LightKeepers$Told" "flashes" "[I") (List.mem_of_getElem? (i := 4) rfl)) (fun _ h9 => h9) rfl dX4_become_25 ?_
  refine lv_iconst (v := 0) hx hb dX4_become_28 (by decide) ?_
  refine lv_aload_n hx hb dX4_become_29 rfl (lv_at hl 0 rfl) ?_
  refine va_get (D := g.1) (ci := 4) (v := .ref q_flashes) (C := RX4) (T := TX4) (N := 6) hx hb hts in_X4_become_X4 hown hK hP 0 rfl rfl 4 (by decide) (hts (.fieldLink RX4 15 "LightKeepers$Told" "flashes" "[I") (List.mem_of_getElem? (i := 4) rfl)) (fun _ h9 => h9) rfl dX4_become_30 ?_
  refine lv_iconst (v := 0) hx hb dX4_become_33 (by decide) ?_
  refine lv_bipush (v := 6) hx hb dX4_become_34 (by decide) ?_
  refine va_copyi hx hb (hml.trans hl.1.symm) hown (hts (.methodLink RX4 38 arraycopyName) (List.mem_of_getElem? (i := 5) rfl)) (hts (.native arraycopyName) (List.mem_of_getElem? (i := 6) rfl)) (hts (.static arraycopyName) (List.mem_of_getElem? (i := 7) rfl)) (hts (.initialized "java/lang/System") (List.mem_of_getElem? (i := 8) rfl)) hK hP hD hS 2 3 0 0 rfl rfl rfl rfl rfl (by decide) (by decide) (by decide) (by decide) (by decide) (fun _ _ => rfl) (Nat.le_of_ble_eq_true rfl) (Nat.le_of_ble_eq_true rfl) dX4_become_36 (fun H locs hP hD hS => ?_)
  have hP : va_P g.1 vwCl [(q_this, .inr (4, [.int v_a1_keepers, .int v_a1_hates, .int v_a1_sight, .int v_sightTold, .ref q_flashes, .ref q_haters])), (q_a1, .inr (4, [.int v_a1_keepers, .int v_a1_hates, .int v_a1_sight, .int v_a1_sightTold, .ref q_a1_flashes, .ref q_a1_haters])), (q_a1_flashes, .inl (g.2.1, 6, .inl f_a1_flashes)), (q_flashes, .inl (g.2.1, 6, .inl (va_cpy f_a1_flashes f_flashes (Int32.toNatClampNeg 0) (Int32.toNatClampNeg 0) (Int32.toNatClampNeg 6)))), (q_a1_haters, .inl (g.2.1, 6, .inl f_a1_haters)), (q_haters, .inl (g.2.1, 6, .inl f_haters))] H := hP
  have hD : va_D A [(q_this, .inr (4, [.int v_a1_keepers, .int v_a1_hates, .int v_a1_sight, .int v_sightTold, .ref q_flashes, .ref q_haters])), (q_a1, .inr (4, [.int v_a1_keepers, .int v_a1_hates, .int v_a1_sight, .int v_a1_sightTold, .ref q_a1_flashes, .ref q_a1_haters])), (q_a1_flashes, .inl (g.2.1, 6, .inl f_a1_flashes)), (q_flashes, .inl (g.2.1, 6, .inl (va_cpy f_a1_flashes f_flashes (Int32.toNatClampNeg 0) (Int32.toNatClampNeg 0) (Int32.toNatClampNeg 6)))), (q_a1_haters, .inl (g.2.1, 6, .inl f_a1_haters)), (q_haters, .inl (g.2.1, 6, .inl f_haters))] := hD
  refine lv_aload_n hx hb dX4_become_39 rfl (lv_at hl 1 rfl) ?_
  refine va_get (D := g.1) (ci := 4) (v := .ref q_a1_haters) (C := RX4) (T := TX4) (N := 6) hx hb hts in_X4_become_X4 hown hK hP 1 rfl rfl 5 (by decide) (hts (.fieldLink RX4 19 "LightKeepers$Told" "haters" "[I") (List.mem_of_getElem? (i := 9) rfl)) (fun _ h9 => h9) rfl dX4_become_40 ?_
  refine lv_iconst (v := 0) hx hb dX4_become_43 (by decide) ?_
  refine lv_aload_n hx hb dX4_become_44 rfl (lv_at hl 0 rfl) ?_
  refine va_get (D := g.1) (ci := 4) (v := .ref q_haters) (C := RX4) (T := TX4) (N := 6) hx hb hts in_X4_become_X4 hown hK hP 0 rfl rfl 5 (by decide) (hts (.fieldLink RX4 19 "LightKeepers$Told" "haters" "[I") (List.mem_of_getElem? (i := 9) rfl)) (fun _ h9 => h9) rfl dX4_become_45 ?_
  refine lv_iconst (v := 0) hx hb dX4_become_48 (by decide) ?_
  refine lv_bipush (v := 6) hx hb dX4_become_49 (by decide) ?_
  refine va_copyi hx hb (hml.trans hl.1.symm) hown (hts (.methodLink RX4 38 arraycopyName) (List.mem_of_getElem? (i := 5) rfl)) (hts (.native arraycopyName) (List.mem_of_getElem? (i := 6) rfl)) (hts (.static arraycopyName) (List.mem_of_getElem? (i := 7) rfl)) (hts (.initialized "java/lang/System") (List.mem_of_getElem? (i := 8) rfl)) hK hP hD hS 4 5 0 0 rfl rfl rfl rfl rfl (by decide) (by decide) (by decide) (by decide) (by decide) (fun _ _ => rfl) (Nat.le_of_ble_eq_true rfl) (Nat.le_of_ble_eq_true rfl) dX4_become_51 (fun H locs hP hD hS => ?_)
  have hP : va_P g.1 vwCl [(q_this, .inr (4, [.int v_a1_keepers, .int v_a1_hates, .int v_a1_sight, .int v_sightTold, .ref q_flashes, .ref q_haters])), (q_a1, .inr (4, [.int v_a1_keepers, .int v_a1_hates, .int v_a1_sight, .int v_a1_sightTold, .ref q_a1_flashes, .ref q_a1_haters])), (q_a1_flashes, .inl (g.2.1, 6, .inl f_a1_flashes)), (q_flashes, .inl (g.2.1, 6, .inl (va_cpy f_a1_flashes f_flashes (Int32.toNatClampNeg 0) (Int32.toNatClampNeg 0) (Int32.toNatClampNeg 6)))), (q_a1_haters, .inl (g.2.1, 6, .inl f_a1_haters)), (q_haters, .inl (g.2.1, 6, .inl (va_cpy f_a1_haters f_haters (Int32.toNatClampNeg 0) (Int32.toNatClampNeg 0) (Int32.toNatClampNeg 6))))] H := hP
  have hD : va_D A [(q_this, .inr (4, [.int v_a1_keepers, .int v_a1_hates, .int v_a1_sight, .int v_sightTold, .ref q_flashes, .ref q_haters])), (q_a1, .inr (4, [.int v_a1_keepers, .int v_a1_hates, .int v_a1_sight, .int v_a1_sightTold, .ref q_a1_flashes, .ref q_a1_haters])), (q_a1_flashes, .inl (g.2.1, 6, .inl f_a1_flashes)), (q_flashes, .inl (g.2.1, 6, .inl (va_cpy f_a1_flashes f_flashes (Int32.toNatClampNeg 0) (Int32.toNatClampNeg 0) (Int32.toNatClampNeg 6)))), (q_a1_haters, .inl (g.2.1, 6, .inl f_a1_haters)), (q_haters, .inl (g.2.1, 6, .inl (va_cpy f_a1_haters f_haters (Int32.toNatClampNeg 0) (Int32.toNatClampNeg 0) (Int32.toNatClampNeg 6))))] := hD
  cases hres
  exact ret_v C0 hP hD hS dX4_become_54
set_option maxHeartbeats 4000000 in
set_option maxRecDepth 100000 in
theorem c_X5_factorial (l : Launch) (g : gG) {x0 : Int32} {u0 : Int32} (hres : f_X5_factorial x0 = some u0) : Ci l g yX5_factorial wsX5_factorial rm_X5_factorial [.int x0] [] [] u0 := by
  intro sz
  refine gBody (Qf := fun A => gQi g [] u0 A) (cc := cX5_factorial) (maxL := 1) (ret := (some .int)) (own := RX5) (by decide +kernel) rfl rfl (Nat.le_of_ble_eq_true rfl) ?_
  intro p e s m args below meth c A C0 H hS hD hP ls hl
  obtain ⟨hx, hb, hml, hown, hts, hr, hlk, hN, hK, hF, hA⟩ := id C0
  have hl : lv_has ls 1 [(0, .int x0)] := hl
  unfold f_X5_factorial at hres
  refine lv_iload_n hx hb dX5_factorial_0 rfl (lv_at hl 0 rfl) ?_
  refine lv_if_lt (tgt := 20) hx hb dX5_factorial_1 (by decide) (fun c1 => ?_) (fun c1 => ?_)
  · have hres := it_t hres c1
    refine lv_iconst (v := 0) hx hb dX5_factorial_20 (by decide) ?_
    cases hres
    exact ret_i C0 hP hD hS dX5_factorial_21
  · have hres := it_f hres c1
    refine lv_iload_n hx hb dX5_factorial_4 rfl (lv_at hl 0 rfl) ?_
    obtain ⟨t9, hZ, hT⟩ := id hF
    refine va_gets hx hb hZ hS hown (hts (.fieldLink RX5 69 "LightKeepers$Ways" "FACTORIALS" "[I") (List.mem_of_getElem? (i := 1) rfl)) (fun _ h9 => h9) dX5_factorial_5 ?_
    refine va_tlen (v := 7) hx hb hT hS (by decide) dX5_factorial_8 ?_
    refine lv_icmp_ge (tgt := 20) hx hb dX5_factorial_9 (by decide) (fun c2 => ?_) (fun c2 => ?_)
    · have hres := it_t hres c2
      refine lv_iconst (v := 0) hx hb dX5_factorial_20 (by decide) ?_
      cases hres
      exact ret_i C0 hP hD hS dX5_factorial_21
    · have hres := it_f hres c2
      obtain ⟨t9, hZ, hT⟩ := id hF
      refine va_gets hx hb hZ hS hown (hts (.fieldLink RX5 69 "LightKeepers$Ways" "FACTORIALS" "[I") (List.mem_of_getElem? (i := 1) rfl)) (fun _ h9 => h9) dX5_factorial_12 ?_
      refine lv_iload_n hx hb dX5_factorial_15 rfl (lv_at hl 0 rfl) ?_
      have c3 := gd1 hres
      have hres := gd2 hres
      refine va_ti (v := .int (facI x0.toNatClampNeg)) hx hb hT hS c3 rfl dX5_factorial_16 ?_
      refine lv_goto (tgt := 21) hx hb dX5_factorial_17 (by decide) ?_
      cases hres
      exact ret_i C0 hP hD hS dX5_factorial_21
set_option maxHeartbeats 4000000 in
set_option maxRecDepth 100000 in
theorem w_X5_freeKeeper_L4 {p : Program} {l : Launch} {e : Env} {s : State} {m : MethodId} {args : Array Value} {below : List Frame} {meth : Method} {c : Code} {g : gG} {A : Nat → Prop} {x0 : Int32} {u0 : Int32} {k : Int32 → Int32 → Option (Int32)} {n : Nat} {x2 : Int32} {x3 : Int32} {H : Heap} {locs : List Loc} {ls : Array Slot} (C0 : Cx p s m args meth c RX5 cX5_freeKeeper 4 wsX5_freeKeeper (some .int) g A)
    (hP : va_P g.1 vwCl [] H) (hD : va_D A []) (hS : va_S A s.heap H locs) (hl : lv_has ls 4 [(0, .int x0), (2, .int x2), (3, .int x3)]) (hres : lp_X5_freeKeeper_L4 x0 k n x2 x3 = some u0)
    (K : ∀ (x2 : Int32) (x3 : Int32) (H : Heap) (locs : List Loc) (ls : Array Slot), va_P g.1 vwCl [] H → va_D A [] → va_S A s.heap H locs → lv_has ls 4 [(0, .int x0), (2, .int x2), (3, .int x3)] → k x2 x3 = some u0 → W p l e rm_X5_freeKeeper s m args below meth c H locs 0 0 (MQ below (gQi g [] u0 A) args s 0 0 A) (F0 m 34 ls [])) :
    W p l e rm_X5_freeKeeper s m args below meth c H locs 0 0 (MQ below (gQi g [] u0 A) args s 0 0 A) (F0 m 4 ls []) := by
  obtain ⟨hx, hb, hml, hown, hts, hr, hlk, hN, hK, hF, hA⟩ := id C0
  induction n generalizing x2 x3 H locs ls with
  | zero => cases hres
  | succ n ih =>
    unfold lp_X5_freeKeeper_L4 at hres
    refine lv_iload_n hx hb dX5_freeKeeper_4 rfl (lv_at hl 2 rfl) ?_
    refine lv_bipush (v := 6) hx hb dX5_freeKeeper_5 (by decide) ?_
    refine lv_icmp_ge (tgt := 34) hx hb dX5_freeKeeper_7 (by decide) (fun c1 => ?_) (fun c1 => ?_)
    · have hres := it_t hres c1
      exact K _ _ _ _ _ hP hD hS hl hres
    · have hres := it_f hres c1
      refine lv_iload_n hx hb dX5_freeKeeper_10 rfl (lv_at hl 0 rfl) ?_
      refine lv_iload_n hx hb dX5_freeKeeper_11 rfl (lv_at hl 2 rfl) ?_
      refine lv_ishr hx hb dX5_freeKeeper_12 ?_
      refine lv_iconst (v := 1) hx hb dX5_freeKeeper_13 (by decide) ?_
      refine lv_iand hx hb dX5_freeKeeper_14 ?_
      refine lv_iconst (v := 1) hx hb dX5_freeKeeper_15 (by decide) ?_
      refine lv_icmp_ne (tgt := 28) hx hb dX5_freeKeeper_16 (by decide) (fun c2 => ?_) (fun c2 => ?_)
      · have hres := it_f hres c2
        refine lv_iinc (v := (x3 + 1)) (lv' := [(3, .int (x3 + 1)), (0, .int x0), (2, .int x2)]) hx hb dX5_freeKeeper_28 hl (k := 2) rfl rfl (by decide) rfl (fun ls hl => ?_)
        refine lv_goto (tgt := 4) hx hb dX5_freeKeeper_31 (by decide) ?_
        have hl : lv_has ls 4 [(0, .int x0), (2, .int x2), (3, .int (x3 + 1))] := lv_sub hl [1, 2, 0] rfl
        exact ih hP hS hl hres
      · have hres := it_t hres c2
        refine lv_iload_n hx hb dX5_freeKeeper_19 rfl (lv_at hl 1 rfl) ?_
        refine lv_if_ne (tgt := 25) hx hb dX5_freeKeeper_20 (by decide) (fun c3 => ?_) (fun c3 => ?_)
        · have hres := it_f hres c3
          refine lv_iinc (v := (x2 + (-1))) (lv' := [(2, .int (x2 + (-1))), (0, .int x0), (3, .int x3)]) hx hb dX5_freeKeeper_25 hl (k := 1) rfl rfl (by decide) rfl (fun ls hl => ?_)
          refine lv_iinc (v := (x3 + 1)) (lv' := [(3, .int (x3 + 1)), (2, .int (x2 + (-1))), (0, .int x0)]) hx hb dX5_freeKeeper_28 hl (k := 2) rfl rfl (by decide) rfl (fun ls hl => ?_)
          refine lv_goto (tgt := 4) hx hb dX5_freeKeeper_31 (by decide) ?_
          have hl : lv_has ls 4 [(0, .int x0), (2, .int (x2 + (-1))), (3, .int (x3 + 1))] := lv_sub hl [2, 1, 0] rfl
          exact ih hP hS hl hres
        · have hres := it_t hres c3
          refine lv_iload_n hx hb dX5_freeKeeper_23 rfl (lv_at hl 2 rfl) ?_
          cases hres
          exact ret_i C0 hP hD hS dX5_freeKeeper_24
set_option maxHeartbeats 4000000 in
set_option maxRecDepth 100000 in
theorem c_X5_freeKeeper (l : Launch) (g : gG) {x0 : Int32} {x1 : Int32} {u0 : Int32} (hres : f_X5_freeKeeper x0 x1 = some u0) : Ci l g yX5_freeKeeper wsX5_freeKeeper rm_X5_freeKeeper [.int x0, .int x1] [] [] u0 := by
  intro sz
  refine gBody (Qf := fun A => gQi g [] u0 A) (cc := cX5_freeKeeper) (maxL := 4) (ret := (some .int)) (own := RX5) (by decide +kernel) rfl rfl (Nat.le_of_ble_eq_true rfl) ?_
  intro p e s m args below meth c A C0 H hS hD hP ls hl
  obtain ⟨hx, hb, hml, hown, hts, hr, hlk, hN, hK, hF, hA⟩ := id C0
  have hl : lv_has ls 4 [(0, .int x0), (1, .int x1)] := hl
  unfold f_X5_freeKeeper at hres
  refine lv_iload_n hx hb dX5_freeKeeper_0 rfl (lv_at hl 1 rfl) ?_
  refine lv_istore_n (lv' := [(2, .int x1), (0, .int x0), (1, .int x1)]) hx hb dX5_freeKeeper_1 rfl hl (by decide) rfl (fun ls hl => ?_)
  refine lv_iconst (v := 0) hx hb dX5_freeKeeper_2 (by decide) ?_
  refine lv_istore_n (lv' := [(3, .int 0), (2, .int x1), (0, .int x0), (1, .int x1)]) hx hb dX5_freeKeeper_3 rfl hl (by decide) rfl (fun ls hl => ?_)
  have hl : lv_has ls 4 [(0, .int x0), (2, .int x1), (3, .int 0)] := lv_sub hl [2, 1, 0] rfl
  refine w_X5_freeKeeper_L4 C0 hP hD hS hl hres (fun y4 y5 H locs ls hP hD hS hl hres => ?_)
  refine lv_iconst (v := 0) hx hb dX5_freeKeeper_34 (by decide) ?_
  cases hres
  exact ret_i C0 hP hD hS dX5_freeKeeper_35
set_option maxHeartbeats 4000000 in
set_option maxRecDepth 100000 in
theorem w_X5_fillRow_L14 {p : Program} {l : Launch} {e : Env} {s : State} {m : MethodId} {args : Array Value} {below : List Frame} {meth : Method} {c : Code} {g : gG} {A : Nat → Prop} {q_this q_keepers q_changed q_row : Nat} {v_rocks : Int32} {v_many : Int32} {u0 : (Nat → Int32)} {k : Int32 → Int32 → Int32 → (Nat → Int32) → Option ((Nat → Int32))} {n : Nat} {x2 : Int32} {x3 : Int32} {x4 : Int32} {f_row : Nat → Int32} {H : Heap} {locs : List Loc} {ls : Array Slot} (C0 : Cx p s m args meth c RX5 cX5_fillRow 7 wsX5_fillRow none g A)
    (hP : va_P g.1 vwCl [(q_this, .inr (5, [.int v_rocks, .int v_many, .ref q_keepers, .ref q_changed, .ref q_row])), (q_row, .inl (g.2.1, 6, .inl f_row))] H) (hD : va_D A [(q_this, .inr (5, [.int v_rocks, .int v_many, .ref q_keepers, .ref q_changed, .ref q_row])), (q_row, .inl (g.2.1, 6, .inl f_row))]) (hS : va_S A s.heap H locs) (hl : lv_has ls 7 [(0, .ref q_this), (2, .int x2), (3, .int x3), (4, .int x4)]) (hres : lp_X5_fillRow_L14 v_rocks k n x2 x3 x4 f_row = some u0)
    (K : ∀ (x2 : Int32) (x3 : Int32) (x4 : Int32) (f_row : Nat → Int32) (H : Heap) (locs : List Loc) (ls : Array Slot), va_P g.1 vwCl [(q_this, .inr (5, [.int v_rocks, .int v_many, .ref q_keepers, .ref q_changed, .ref q_row])), (q_row, .inl (g.2.1, 6, .inl f_row))] H → va_D A [(q_this, .inr (5, [.int v_rocks, .int v_many, .ref q_keepers, .ref q_changed, .ref q_row])), (q_row, .inl (g.2.1, 6, .inl f_row))] → va_S A s.heap H locs → lv_has ls 7 [(0, .ref q_this), (2, .int x2), (3, .int x3), (4, .int x4)] → k x2 x3 x4 f_row = some u0 → W p l e rm_X5_fillRow s m args below meth c H locs 0 0 (MQ below (gQv g [(q_this, .inr (5, [.int v_rocks, .int v_many, .ref q_keepers, .ref q_changed, .ref q_row])), (q_row, .inl (g.2.1, 6, .inl u0))] A) args s 0 0 A) (F0 m 96 ls [])) :
    W p l e rm_X5_fillRow s m args below meth c H locs 0 0 (MQ below (gQv g [(q_this, .inr (5, [.int v_rocks, .int v_many, .ref q_keepers, .ref q_changed, .ref q_row])), (q_row, .inl (g.2.1, 6, .inl u0))] A) args s 0 0 A) (F0 m 14 ls []) := by
  obtain ⟨hx, hb, hml, hown, hts, hr, hlk, hN, hK, hF, hA⟩ := id C0
  induction n generalizing x2 x3 x4 f_row H locs ls with
  | zero => cases hres
  | succ n ih =>
    unfold lp_X5_fillRow_L14 at hres
    refine lv_iload hx hb dX5_fillRow_14 (lv_at hl 3 rfl) ?_
    refine lv_aload_n hx hb dX5_fillRow_16 rfl (lv_at hl 0 rfl) ?_
    refine va_get (D := g.1) (ci := 5) (v := .int v_rocks) (C := RX5) (T := TX5) (N := 5) hx hb hts in_X5_fillRow_X5 hown hK hP 0 rfl rfl 0 (by decide) (hts (.fieldLink RX5 25 "LightKeepers$Ways" "rocks" "I") (List.mem_of_getElem? (i := 1) rfl)) (fun _ h9 => h9) rfl dX5_fillRow_17 ?_
    refine lv_icmp_ge (tgt := 96) hx hb dX5_fillRow_20 (by decide) (fun c1 => ?_) (fun c1 => ?_)
    · have hres := it_t hres c1
      exact K _ _ _ _ _ _ _ hP hD hS hl hres
    · have hres := it_f hres c1
      refine lv_aload_n hx hb dX5_fillRow_23 rfl (lv_at hl 0 rfl) ?_
      refine va_get (D := g.1) (ci := 5) (v := .int v_rocks) (C := RX5) (T := TX5) (N := 5) hx hb hts in_X5_fillRow_X5 hown hK hP 0 rfl rfl 0 (by decide) (hts (.fieldLink RX5 25 "LightKeepers$Ways" "rocks" "I") (List.mem_of_getElem? (i := 1) rfl)) (fun _ h9 => h9) rfl dX5_fillRow_24 ?_
      refine lv_iconst (v := 1) hx hb dX5_fillRow_27 (by decide) ?_
      refine lv_isub hx hb dX5_fillRow_28 ?_
      refine lv_iload hx hb dX5_fillRow_29 (lv_at hl 3 rfl) ?_
      refine lv_isub hx hb dX5_fillRow_31 ?_
      obtain ⟨u2, hu2, hres⟩ := bd hres
      refine k_i C0 (run_S (As := [.int ((v_rocks - 1) - x4)]) (rest := []) C0 (c_X5_factorial l g (x0 := ((v_rocks - 1) - x4)) (u0 := u2) hu2 _) 1 gX5_fillRow_X5_factorial rfl rfl rfl hd_X5_factorial ⟨Nat.le_of_ble_eq_true rfl, Nat.le_of_ble_eq_true rfl⟩ hP hD hS [] rfl rfl rfl hl.1 rfl (Nat.le_of_ble_eq_true rfl) ⟨Nat.zero_le _, Nat.zero_le _⟩ dX5_fillRow_32) hP hD hS [] [0, 1] rfl rfl rfl (by decide) (fun H locs hP hD hS => ?_)
      have hP : va_P g.1 vwCl [(q_this, .inr (5, [.int v_rocks, .int v_many, .ref q_keepers, .ref q_changed, .ref q_row])), (q_row, .inl (g.2.1, 6, .inl f_row))] H := hP
      have hD : va_D A [(q_this, .inr (5, [.int v_rocks, .int v_many, .ref q_keepers, .ref q_changed, .ref q_row])), (q_row, .inl (g.2.1, 6, .inl f_row))] := hD
      refine lv_istore (lv' := [(5, .int u2), (0, .ref q_this), (2, .int x2), (3, .int x3), (4, .int x4)]) hx hb dX5_fillRow_35 hl (by decide) rfl (fun ls hl => ?_)
      refine lv_iload_n hx hb dX5_fillRow_37 rfl (lv_at hl 3 rfl) ?_
      refine lv_iload hx hb dX5_fillRow_38 (lv_at hl 0 rfl) ?_
      refine lv_if_le (tgt := 50) hx hb dX5_fillRow_40 (by decide) (fun c3 => ?_) (fun c3 => ?_)
      · have hres := it_t hres c3
        refine lv_iconst (v := 0) hx hb dX5_fillRow_50 (by decide) ?_
        obtain ⟨u4, hu4, hres⟩ := bd hres
        refine k_i C0 (run_S (As := [.int x3, .int 0]) (rest := []) C0 (c_X5_freeKeeper l g (x0 := x3) (x1 := 0) (u0 := u4) hu4 _) 2 gX5_fillRow_X5_freeKeeper rfl rfl rfl hd_X5_freeKeeper ⟨Nat.le_of_ble_eq_true rfl, Nat.le_of_ble_eq_true rfl⟩ hP hD hS [] rfl rfl rfl hl.1 rfl (Nat.le_of_ble_eq_true rfl) ⟨Nat.zero_le _, Nat.zero_le _⟩ dX5_fillRow_51) hP hD hS [] [0, 1] rfl rfl rfl (by decide) (fun H locs hP hD hS => ?_)
        have hP : va_P g.1 vwCl [(q_this, .inr (5, [.int v_rocks, .int v_many, .ref q_keepers, .ref q_changed, .ref q_row])), (q_row, .inl (g.2.1, 6, .inl f_row))] H := hP
        have hD : va_D A [(q_this, .inr (5, [.int v_rocks, .int v_many, .ref q_keepers, .ref q_changed, .ref q_row])), (q_row, .inl (g.2.1, 6, .inl f_row))] := hD
        refine lv_istore (lv' := [(6, .int u4), (5, .int u2), (0, .ref q_this), (2, .int x2), (3, .int x3), (4, .int x4)]) hx hb dX5_fillRow_54 hl (by decide) rfl (fun ls hl => ?_)
        refine lv_iload hx hb dX5_fillRow_56 (lv_at hl 1 rfl) ?_
        refine lv_if_le (tgt := 68) hx hb dX5_fillRow_58 (by decide) (fun c5 => ?_) (fun c5 => ?_)
        · have hres := it_t hres c5
          refine lv_iconst (v := 0) hx hb dX5_fillRow_68 (by decide) ?_
          refine lv_istore_n (lv' := [(2, .int 0), (6, .int u4), (5, .int u2), (0, .ref q_this), (3, .int x3), (4, .int x4)]) hx hb dX5_fillRow_69 rfl hl (by decide) rfl (fun ls hl => ?_)
          refine lv_iload_n hx hb dX5_fillRow_70 rfl (lv_at hl 4 rfl) ?_
          refine lv_iconst (v := 1) hx hb dX5_fillRow_71 (by decide) ?_
          refine lv_iload hx hb dX5_fillRow_72 (lv_at hl 1 rfl) ?_
          refine lv_ishl hx hb dX5_fillRow_74 ?_
          refine lv_iconst (v := (-1)) hx hb dX5_fillRow_75 (by decide) ?_
          refine lv_ixor hx hb dX5_fillRow_76 ?_
          refine lv_iand hx hb dX5_fillRow_77 ?_
          refine lv_istore_n (lv' := [(3, .int (x3 &&& ((1 <<< (u4 &&& 31)) ^^^ (-1)))), (2, .int 0), (6, .int u4), (5, .int u2), (0, .ref q_this), (4, .int x4)]) hx hb dX5_fillRow_78 rfl hl (by decide) rfl (fun ls hl => ?_)
          refine lv_aload_n hx hb dX5_fillRow_79 rfl (lv_at hl 4 rfl) ?_
          refine va_get (D := g.1) (ci := 5) (v := .ref q_row) (C := RX5) (T := TX5) (N := 5) hx hb hts in_X5_fillRow_X5 hown hK hP 0 rfl rfl 4 (by decide) (hts (.fieldLink RX5 22 "LightKeepers$Ways" "row" "[I") (List.mem_of_getElem? (i := 2) rfl)) (fun _ h9 => h9) rfl dX5_fillRow_80 ?_
          refine lv_iload hx hb dX5_fillRow_83 (lv_at hl 5 rfl) ?_
          refine lv_iload hx hb dX5_fillRow_85 (lv_at hl 2 rfl) ?_
          obtain ⟨u6, hu6, hres⟩ := bd hres
          refine k_v C0 (run_SN (As := [.ref q_row, .int x4, .int u4]) (rest := []) C0 (c_X6_put l g (q_a0 := q_row) (n_a0 := 6) (f_a0 := f_row) (x1 := x4) (x2 := u4) (u0 := u6) hu6 _) 3 gX5_fillRow_X6_put_n49 rfl rfl rfl (List.mem_of_getElem? (i := 13) rfl) (List.mem_of_getElem? (i := 11) rfl) (List.mem_of_getElem? (i := 12) rfl) hd_X6_put ⟨Nat.le_of_ble_eq_true rfl, Nat.le_of_ble_eq_true rfl⟩ hP hD hS [1] rfl rfl rfl hl.1 rfl (Nat.le_of_ble_eq_true rfl) ⟨Nat.zero_le _, Nat.zero_le _⟩ dX5_fillRow_87) hP hD hS [1] [0] rfl rfl rfl (by decide) (fun H locs hP hD hS => ?_)
          have hP : va_P g.1 vwCl [(q_this, .inr (5, [.int v_rocks, .int v_many, .ref q_keepers, .ref q_changed, .ref q_row])), (q_row, .inl (g.2.1, 6, .inl u6))] H := hP
          have hD : va_D A [(q_this, .inr (5, [.int v_rocks, .int v_many, .ref q_keepers, .ref q_changed, .ref q_row])), (q_row, .inl (g.2.1, 6, .inl u6))] := hD
          refine lv_iinc (v := (x4 + 1)) (lv' := [(4, .int (x4 + 1)), (3, .int (x3 &&& ((1 <<< (u4 &&& 31)) ^^^ (-1)))), (2, .int 0), (6, .int u4), (5, .int u2), (0, .ref q_this)]) hx hb dX5_fillRow_90 hl (k := 5) rfl rfl (by decide) rfl (fun ls hl => ?_)
          refine lv_goto (tgt := 14) hx hb dX5_fillRow_93 (by decide) ?_
          have hl : lv_has ls 7 [(0, .ref q_this), (2, .int 0), (3, .int (x3 &&& ((1 <<< (u4 &&& 31)) ^^^ (-1)))), (4, .int (x4 + 1))] := lv_sub hl [5, 2, 1, 0] rfl
          exact ih hP hD hS hl hres
        · have hres := it_f hres c5
          refine lv_iload_n hx hb dX5_fillRow_61 rfl (lv_at hl 3 rfl) ?_
          refine lv_iload hx hb dX5_fillRow_62 (lv_at hl 1 rfl) ?_
          have c7 := gd1 hres
          have hres := gd2 hres
          refine lv_irem hx hb dX5_fillRow_64 c7 ?_
          refine lv_goto (tgt := 69) hx hb dX5_fillRow_65 (by decide) ?_
          refine lv_istore_n (lv' := [(2, .int (x2 - x2 / u2 * u2)), (6, .int u4), (5, .int u2), (0, .ref q_this), (3, .int x3), (4, .int x4)]) hx hb dX5_fillRow_69 rfl hl (by decide) rfl (fun ls hl => ?_)
          refine lv_iload_n hx hb dX5_fillRow_70 rfl (lv_at hl 4 rfl) ?_
          refine lv_iconst (v := 1) hx hb dX5_fillRow_71 (by decide) ?_
          refine lv_iload hx hb dX5_fillRow_72 (lv_at hl 1 rfl) ?_
          refine lv_ishl hx hb dX5_fillRow_74 ?_
          refine lv_iconst (v := (-1)) hx hb dX5_fillRow_75 (by decide) ?_
          refine lv_ixor hx hb dX5_fillRow_76 ?_
          refine lv_iand hx hb dX5_fillRow_77 ?_
          refine lv_istore_n (lv' := [(3, .int (x3 &&& ((1 <<< (u4 &&& 31)) ^^^ (-1)))), (2, .int (x2 - x2 / u2 * u2)), (6, .int u4), (5, .int u2), (0, .ref q_this), (4, .int x4)]) hx hb dX5_fillRow_78 rfl hl (by decide) rfl (fun ls hl => ?_)
          refine lv_aload_n hx hb dX5_fillRow_79 rfl (lv_at hl 4 rfl) ?_
          refine va_get (D := g.1) (ci := 5) (v := .ref q_row) (C := RX5) (T := TX5) (N := 5) hx hb hts in_X5_fillRow_X5 hown hK hP 0 rfl rfl 4 (by decide) (hts (.fieldLink RX5 22 "LightKeepers$Ways" "row" "[I") (List.mem_of_getElem? (i := 2) rfl)) (fun _ h9 => h9) rfl dX5_fillRow_80 ?_
          refine lv_iload hx hb dX5_fillRow_83 (lv_at hl 5 rfl) ?_
          refine lv_iload hx hb dX5_fillRow_85 (lv_at hl 2 rfl) ?_
          obtain ⟨u8, hu8, hres⟩ := bd hres
          refine k_v C0 (run_SN (As := [.ref q_row, .int x4, .int u4]) (rest := []) C0 (c_X6_put l g (q_a0 := q_row) (n_a0 := 6) (f_a0 := f_row) (x1 := x4) (x2 := u4) (u0 := u8) hu8 _) 3 gX5_fillRow_X6_put_n49 rfl rfl rfl (List.mem_of_getElem? (i := 13) rfl) (List.mem_of_getElem? (i := 11) rfl) (List.mem_of_getElem? (i := 12) rfl) hd_X6_put ⟨Nat.le_of_ble_eq_true rfl, Nat.le_of_ble_eq_true rfl⟩ hP hD hS [1] rfl rfl rfl hl.1 rfl (Nat.le_of_ble_eq_true rfl) ⟨Nat.zero_le _, Nat.zero_le _⟩ dX5_fillRow_87) hP hD hS [1] [0] rfl rfl rfl (by decide) (fun H locs hP hD hS => ?_)
          have hP : va_P g.1 vwCl [(q_this, .inr (5, [.int v_rocks, .int v_many, .ref q_keepers, .ref q_changed, .ref q_row])), (q_row, .inl (g.2.1, 6, .inl u8))] H := hP
          have hD : va_D A [(q_this, .inr (5, [.int v_rocks, .int v_many, .ref q_keepers, .ref q_changed, .ref q_row])), (q_row, .inl (g.2.1, 6, .inl u8))] := hD
          refine lv_iinc (v := (x4 + 1)) (lv' := [(4, .int (x4 + 1)), (3, .int (x3 &&& ((1 <<< (u4 &&& 31)) ^^^ (-1)))), (2, .int (x2 - x2 / u2 * u2)), (6, .int u4), (5, .int u2), (0, .ref q_this)]) hx hb dX5_fillRow_90 hl (k := 5) rfl rfl (by decide) rfl (fun ls hl => ?_)
          refine lv_goto (tgt := 14) hx hb dX5_fillRow_93 (by decide) ?_
          have hl : lv_has ls 7 [(0, .ref q_this), (2, .int (x2 - x2 / u2 * u2)), (3, .int (x3 &&& ((1 <<< (u4 &&& 31)) ^^^ (-1)))), (4, .int (x4 + 1))] := lv_sub hl [5, 2, 1, 0] rfl
          exact ih hP hD hS hl hres
      · have hres := it_f hres c3
        refine lv_iload_n hx hb dX5_fillRow_43 rfl (lv_at hl 2 rfl) ?_
        refine lv_iload hx hb dX5_fillRow_44 (lv_at hl 0 rfl) ?_
        have c9 := gd1 hres
        have hres := gd2 hres
        refine lv_idiv hx hb dX5_fillRow_46 c9 ?_
        refine lv_goto (tgt := 51) hx hb dX5_fillRow_47 (by decide) ?_
        obtain ⟨u10, hu10, hres⟩ := bd hres
        refine k_i C0 (run_S (As := [.int x3, .int (x2 / u2)]) (rest := []) C0 (c_X5_freeKeeper l g (x0 := x3) (x1 := (x2 / u2)) (u0 := u10) hu10 _) 2 gX5_fillRow_X5_freeKeeper rfl rfl rfl hd_X5_freeKeeper ⟨Nat.le_of_ble_eq_true rfl, Nat.le_of_ble_eq_true rfl⟩ hP hD hS [] rfl rfl rfl hl.1 rfl (Nat.le_of_ble_eq_true rfl) ⟨Nat.zero_le _, Nat.zero_le _⟩ dX5_fillRow_51) hP hD hS [] [0, 1] rfl rfl rfl (by decide) (fun H locs hP hD hS => ?_)
        have hP : va_P g.1 vwCl [(q_this, .inr (5, [.int v_rocks, .int v_many, .ref q_keepers, .ref q_changed, .ref q_row])), (q_row, .inl (g.2.1, 6, .inl f_row))] H := hP
        have hD : va_D A [(q_this, .inr (5, [.int v_rocks, .int v_many, .ref q_keepers, .ref q_changed, .ref q_row])), (q_row, .inl (g.2.1, 6, .inl f_row))] := hD
        refine lv_istore (lv' := [(6, .int u10), (5, .int u2), (0, .ref q_this), (2, .int x2), (3, .int x3), (4, .int x4)]) hx hb dX5_fillRow_54 hl (by decide) rfl (fun ls hl => ?_)
        refine lv_iload hx hb dX5_fillRow_56 (lv_at hl 1 rfl) ?_
        refine lv_if_le (tgt := 68) hx hb dX5_fillRow_58 (by decide) (fun c11 => ?_) (fun c11 => ?_)
        · have hres := it_t hres c11
          refine lv_iconst (v := 0) hx hb dX5_fillRow_68 (by decide) ?_
          refine lv_istore_n (lv' := [(2, .int 0), (6, .int u10), (5, .int u2), (0, .ref q_this), (3, .int x3), (4, .int x4)]) hx hb dX5_fillRow_69 rfl hl (by decide) rfl (fun ls hl => ?_)
          refine lv_iload_n hx hb dX5_fillRow_70 rfl (lv_at hl 4 rfl) ?_
          refine lv_iconst (v := 1) hx hb dX5_fillRow_71 (by decide) ?_
          refine lv_iload hx hb dX5_fillRow_72 (lv_at hl 1 rfl) ?_
          refine lv_ishl hx hb dX5_fillRow_74 ?_
          refine lv_iconst (v := (-1)) hx hb dX5_fillRow_75 (by decide) ?_
          refine lv_ixor hx hb dX5_fillRow_76 ?_
          refine lv_iand hx hb dX5_fillRow_77 ?_
          refine lv_istore_n (lv' := [(3, .int (x3 &&& ((1 <<< (u10 &&& 31)) ^^^ (-1)))), (2, .int 0), (6, .int u10), (5, .int u2), (0, .ref q_this), (4, .int x4)]) hx hb dX5_fillRow_78 rfl hl (by decide) rfl (fun ls hl => ?_)
          refine lv_aload_n hx hb dX5_fillRow_79 rfl (lv_at hl 4 rfl) ?_
          refine va_get (D := g.1) (ci := 5) (v := .ref q_row) (C := RX5) (T := TX5) (N := 5) hx hb hts in_X5_fillRow_X5 hown hK hP 0 rfl rfl 4 (by decide) (hts (.fieldLink RX5 22 "LightKeepers$Ways" "row" "[I") (List.mem_of_getElem? (i := 2) rfl)) (fun _ h9 => h9) rfl dX5_fillRow_80 ?_
          refine lv_iload hx hb dX5_fillRow_83 (lv_at hl 5 rfl) ?_
          refine lv_iload hx hb dX5_fillRow_85 (lv_at hl 2 rfl) ?_
          obtain ⟨u12, hu12, hres⟩ := bd hres
          refine k_v C0 (run_SN (As := [.ref q_row, .int x4, .int u10]) (rest := []) C0 (c_X6_put l g (q_a0 := q_row) (n_a0 := 6) (f_a0 := f_row) (x1 := x4) (x2 := u10) (u0 := u12) hu12 _) 3 gX5_fillRow_X6_put_n49 rfl rfl rfl (List.mem_of_getElem? (i := 13) rfl) (List.mem_of_getElem? (i := 11) rfl) (List.mem_of_getElem? (i := 12) rfl) hd_X6_put ⟨Nat.le_of_ble_eq_true rfl, Nat.le_of_ble_eq_true rfl⟩ hP hD hS [1] rfl rfl rfl hl.1 rfl (Nat.le_of_ble_eq_true rfl) ⟨Nat.zero_le _, Nat.zero_le _⟩ dX5_fillRow_87) hP hD hS [1] [0] rfl rfl rfl (by decide) (fun H locs hP hD hS => ?_)
          have hP : va_P g.1 vwCl [(q_this, .inr (5, [.int v_rocks, .int v_many, .ref q_keepers, .ref q_changed, .ref q_row])), (q_row, .inl (g.2.1, 6, .inl u12))] H := hP
          have hD : va_D A [(q_this, .inr (5, [.int v_rocks, .int v_many, .ref q_keepers, .ref q_changed, .ref q_row])), (q_row, .inl (g.2.1, 6, .inl u12))] := hD
          refine lv_iinc (v := (x4 + 1)) (lv' := [(4, .int (x4 + 1)), (3, .int (x3 &&& ((1 <<< (u10 &&& 31)) ^^^ (-1)))), (2, .int 0), (6, .int u10), (5, .int u2), (0, .ref q_this)]) hx hb dX5_fillRow_90 hl (k := 5) rfl rfl (by decide) rfl (fun ls hl => ?_)
          refine lv_goto (tgt := 14) hx hb dX5_fillRow_93 (by decide) ?_
          have hl : lv_has ls 7 [(0, .ref q_this), (2, .int 0), (3, .int (x3 &&& ((1 <<< (u10 &&& 31)) ^^^ (-1)))), (4, .int (x4 + 1))] := lv_sub hl [5, 2, 1, 0] rfl
          exact ih hP hD hS hl hres
        · have hres := it_f hres c11
          refine lv_iload_n hx hb dX5_fillRow_61 rfl (lv_at hl 3 rfl) ?_
          refine lv_iload hx hb dX5_fillRow_62 (lv_at hl 1 rfl) ?_
          have c13 := gd1 hres
          have hres := gd2 hres
          refine lv_irem hx hb dX5_fillRow_64 c13 ?_
          refine lv_goto (tgt := 69) hx hb dX5_fillRow_65 (by decide) ?_
          refine lv_istore_n (lv' := [(2, .int (x2 - x2 / u2 * u2)), (6, .int u10), (5, .int u2), (0, .ref q_this), (3, .int x3), (4, .int x4)]) hx hb dX5_fillRow_69 rfl hl (by decide) rfl (fun ls hl => ?_)
          refine lv_iload_n hx hb dX5_fillRow_70 rfl (lv_at hl 4 rfl) ?_
          refine lv_iconst (v := 1) hx hb dX5_fillRow_71 (by decide) ?_
          refine lv_iload hx hb dX5_fillRow_72 (lv_at hl 1 rfl) ?_
          refine lv_ishl hx hb dX5_fillRow_74 ?_
          refine lv_iconst (v := (-1)) hx hb dX5_fillRow_75 (by decide) ?_
          refine lv_ixor hx hb dX5_fillRow_76 ?_
          refine lv_iand hx hb dX5_fillRow_77 ?_
          refine lv_istore_n (lv' := [(3, .int (x3 &&& ((1 <<< (u10 &&& 31)) ^^^ (-1)))), (2, .int (x2 - x2 / u2 * u2)), (6, .int u10), (5, .int u2), (0, .ref q_this), (4, .int x4)]) hx hb dX5_fillRow_78 rfl hl (by decide) rfl (fun ls hl => ?_)
          refine lv_aload_n hx hb dX5_fillRow_79 rfl (lv_at hl 4 rfl) ?_
          refine va_get (D := g.1) (ci := 5) (v := .ref q_row) (C := RX5) (T := TX5) (N := 5) hx hb hts in_X5_fillRow_X5 hown hK hP 0 rfl rfl 4 (by decide) (hts (.fieldLink RX5 22 "LightKeepers$Ways" "row" "[I") (List.mem_of_getElem? (i := 2) rfl)) (fun _ h9 => h9) rfl dX5_fillRow_80 ?_
          refine lv_iload hx hb dX5_fillRow_83 (lv_at hl 5 rfl) ?_
          refine lv_iload hx hb dX5_fillRow_85 (lv_at hl 2 rfl) ?_
          obtain ⟨u14, hu14, hres⟩ := bd hres
          refine k_v C0 (run_SN (As := [.ref q_row, .int x4, .int u10]) (rest := []) C0 (c_X6_put l g (q_a0 := q_row) (n_a0 := 6) (f_a0 := f_row) (x1 := x4) (x2 := u10) (u0 := u14) hu14 _) 3 gX5_fillRow_X6_put_n49 rfl rfl rfl (List.mem_of_getElem? (i := 13) rfl) (List.mem_of_getElem? (i := 11) rfl) (List.mem_of_getElem? (i := 12) rfl) hd_X6_put ⟨Nat.le_of_ble_eq_true rfl, Nat.le_of_ble_eq_true rfl⟩ hP hD hS [1] rfl rfl rfl hl.1 rfl (Nat.le_of_ble_eq_true rfl) ⟨Nat.zero_le _, Nat.zero_le _⟩ dX5_fillRow_87) hP hD hS [1] [0] rfl rfl rfl (by decide) (fun H locs hP hD hS => ?_)
          have hP : va_P g.1 vwCl [(q_this, .inr (5, [.int v_rocks, .int v_many, .ref q_keepers, .ref q_changed, .ref q_row])), (q_row, .inl (g.2.1, 6, .inl u14))] H := hP
          have hD : va_D A [(q_this, .inr (5, [.int v_rocks, .int v_many, .ref q_keepers, .ref q_changed, .ref q_row])), (q_row, .inl (g.2.1, 6, .inl u14))] := hD
          refine lv_iinc (v := (x4 + 1)) (lv' := [(4, .int (x4 + 1)), (3, .int (x3 &&& ((1 <<< (u10 &&& 31)) ^^^ (-1)))), (2, .int (x2 - x2 / u2 * u2)), (6, .int u10), (5, .int u2), (0, .ref q_this)]) hx hb dX5_fillRow_90 hl (k := 5) rfl rfl (by decide) rfl (fun ls hl => ?_)
          refine lv_goto (tgt := 14) hx hb dX5_fillRow_93 (by decide) ?_
          have hl : lv_has ls 7 [(0, .ref q_this), (2, .int (x2 - x2 / u2 * u2)), (3, .int (x3 &&& ((1 <<< (u10 &&& 31)) ^^^ (-1)))), (4, .int (x4 + 1))] := lv_sub hl [5, 2, 1, 0] rfl
          exact ih hP hD hS hl hres
set_option maxHeartbeats 4000000 in
set_option maxRecDepth 100000 in
theorem c_X5_fillRow (l : Launch) (g : gG) {q_this q_keepers q_changed q_row : Nat} {v_rocks : Int32} {v_many : Int32} {f_row : Nat → Int32} {x1 : Int32} {u0 : (Nat → Int32)} (hres : f_X5_fillRow v_rocks f_row x1 = some u0) : Cv l g yX5_fillRow wsX5_fillRow rm_X5_fillRow [.ref q_this, .int x1] [(q_this, .inr (5, [.int v_rocks, .int v_many, .ref q_keepers, .ref q_changed, .ref q_row])), (q_row, .inl (g.2.1, 6, .inl f_row))] [(q_this, .inr (5, [.int v_rocks, .int v_many, .ref q_keepers, .ref q_changed, .ref q_row])), (q_row, .inl (g.2.1, 6, .inl u0))] := by
  intro sz
  refine gBody (Qf := fun A => gQv g [(q_this, .inr (5, [.int v_rocks, .int v_many, .ref q_keepers, .ref q_changed, .ref q_row])), (q_row, .inl (g.2.1, 6, .inl u0))] A) (cc := cX5_fillRow) (maxL := 7) (ret := none) (own := RX5) (by decide +kernel) rfl rfl (Nat.le_of_ble_eq_true rfl) ?_
  intro p e s m args below meth c A C0 H hS hD hP ls hl
  obtain ⟨hx, hb, hml, hown, hts, hr, hlk, hN, hK, hF, hA⟩ := id C0
  have hl : lv_has ls 7 [(0, .ref q_this), (1, .int x1)] := hl
  unfold f_X5_fillRow at hres
  refine lv_iload_n hx hb dX5_fillRow_0 rfl (lv_at hl 1 rfl) ?_
  refine lv_istore_n (lv' := [(2, .int x1), (0, .ref q_this), (1, .int x1)]) hx hb dX5_fillRow_1 rfl hl (by decide) rfl (fun ls hl => ?_)
  refine lv_iconst (v := 1) hx hb dX5_fillRow_2 (by decide) ?_
  refine lv_aload_n hx hb dX5_fillRow_3 rfl (lv_at hl 1 rfl) ?_
  refine va_get (D := g.1) (ci := 5) (v := .int v_rocks) (C := RX5) (T := TX5) (N := 5) hx hb hts in_X5_fillRow_X5 hown hK hP 0 rfl rfl 0 (by decide) (hts (.fieldLink RX5 25 "LightKeepers$Ways" "rocks" "I") (List.mem_of_getElem? (i := 1) rfl)) (fun _ h9 => h9) rfl dX5_fillRow_4 ?_
  refine lv_ishl hx hb dX5_fillRow_7 ?_
  refine lv_iconst (v := 1) hx hb dX5_fillRow_8 (by decide) ?_
  refine lv_isub hx hb dX5_fillRow_9 ?_
  refine lv_istore_n (lv' := [(3, .int ((1 <<< (v_rocks &&& 31)) - 1)), (2, .int x1), (0, .ref q_this), (1, .int x1)]) hx hb dX5_fillRow_10 rfl hl (by decide) rfl (fun ls hl => ?_)
  refine lv_iconst (v := 0) hx hb dX5_fillRow_11 (by decide) ?_
  refine lv_istore (lv' := [(4, .int 0), (3, .int ((1 <<< (v_rocks &&& 31)) - 1)), (2, .int x1), (0, .ref q_this), (1, .int x1)]) hx hb dX5_fillRow_12 hl (by decide) rfl (fun ls hl => ?_)
  have hl : lv_has ls 7 [(0, .ref q_this), (2, .int x1), (3, .int ((1 <<< (v_rocks &&& 31)) - 1)), (4, .int 0)] := lv_sub hl [3, 2, 1, 0] rfl
  refine w_X5_fillRow_L14 C0 hP hD hS hl hres (fun y15 y16 y17 y18 H locs ls hP hD hS hl hres => ?_)
  cases hres
  exact ret_v C0 hP hD hS dX5_fillRow_96
set_option maxHeartbeats 4000000 in
set_option maxRecDepth 100000 in
theorem c_J6_bitCount_0f7a4 (l : Launch) (g : gG) {x0 : Int32} {u0 : Int32} (hres : f_J6_bitCount_0f7a4 x0 = some u0) : Ci l g yJ6_bitCount_0f7a4 wsJ6_bitCount_0f7a4 rm_J6_bitCount_0f7a4 [.int x0] [] [] u0 := by
  intro sz
  refine gBody (Qf := fun A => gQi g [] u0 A) (cc := cJ6_bitCount_0f7a4) (maxL := 1) (ret := (some .int)) (own := RJ6) (by decide +kernel) rfl rfl (Nat.le_of_ble_eq_true rfl) ?_
  intro p e s m args below meth c A C0 H hS hD hP ls hl
  obtain ⟨hx, hb, hml, hown, hts, hr, hlk, hN, hK, hF, hA⟩ := id C0
  have hl : lv_has ls 1 [(0, .int x0)] := hl
  unfold f_J6_bitCount_0f7a4 at hres
  refine lv_iload_n hx hb dJ6_bitCount_0f7a4_0 rfl (lv_at hl 0 rfl) ?_
  refine lv_iload_n hx hb dJ6_bitCount_0f7a4_1 rfl (lv_at hl 0 rfl) ?_
  refine lv_iconst (v := 1) hx hb dJ6_bitCount_0f7a4_2 (by decide) ?_
  refine lv_iushr (v := (ushr x0 1)) hx hb dJ6_bitCount_0f7a4_3 rfl ?_
  refine lv_ldcw (v := 1431655765) hx hb hown (hts (.constant RJ6 265 (1431655765)) (List.mem_of_getElem? (i := 1) rfl))  dJ6_bitCount_0f7a4_4 ?_
  refine lv_iand hx hb dJ6_bitCount_0f7a4_7 ?_
  refine lv_isub hx hb dJ6_bitCount_0f7a4_8 ?_
  refine lv_istore_n (lv' := [(0, .int (x0 - ((ushr x0 1) &&& 1431655765)))]) hx hb dJ6_bitCount_0f7a4_9 rfl hl (by decide) rfl (fun ls hl => ?_)
  refine lv_iload_n hx hb dJ6_bitCount_0f7a4_10 rfl (lv_at hl 0 rfl) ?_
  refine lv_ldcw (v := 858993459) hx hb hown (hts (.constant RJ6 266 (858993459)) (List.mem_of_getElem? (i := 2) rfl))  dJ6_bitCount_0f7a4_11 ?_
  refine lv_iand hx hb dJ6_bitCount_0f7a4_14 ?_
  refine lv_iload_n hx hb dJ6_bitCount_0f7a4_15 rfl (lv_at hl 0 rfl) ?_
  refine lv_iconst (v := 2) hx hb dJ6_bitCount_0f7a4_16 (by decide) ?_
  refine lv_iushr (v := (ushr (x0 - ((ushr x0 1) &&& 1431655765)) 2)) hx hb dJ6_bitCount_0f7a4_17 rfl ?_
  refine lv_ldcw (v := 858993459) hx hb hown (hts (.constant RJ6 266 (858993459)) (List.mem_of_getElem? (i := 2) rfl))  dJ6_bitCount_0f7a4_18 ?_
  refine lv_iand hx hb dJ6_bitCount_0f7a4_21 ?_
  refine lv_iadd hx hb dJ6_bitCount_0f7a4_22 ?_
  refine lv_istore_n (lv' := [(0, .int (((x0 - ((ushr x0 1) &&& 1431655765)) &&& 858993459) + ((ushr (x0 - ((ushr x0 1) &&& 1431655765)) 2) &&& 858993459)))]) hx hb dJ6_bitCount_0f7a4_23 rfl hl (by decide) rfl (fun ls hl => ?_)
  refine lv_iload_n hx hb dJ6_bitCount_0f7a4_24 rfl (lv_at hl 0 rfl) ?_
  refine lv_iload_n hx hb dJ6_bitCount_0f7a4_25 rfl (lv_at hl 0 rfl) ?_
  refine lv_iconst (v := 4) hx hb dJ6_bitCount_0f7a4_26 (by decide) ?_
  refine lv_iushr (v := (ushr (((x0 - ((ushr x0 1) &&& 1431655765)) &&& 858993459) + ((ushr (x0 - ((ushr x0 1) &&& 1431655765)) 2) &&& 858993459)) 4)) hx hb dJ6_bitCount_0f7a4_27 rfl ?_
  refine lv_iadd hx hb dJ6_bitCount_0f7a4_28 ?_
  refine lv_ldcw (v := 252645135) hx hb hown (hts (.constant RJ6 267 (252645135)) (List.mem_of_getElem? (i := 3) rfl))  dJ6_bitCount_0f7a4_29 ?_
  refine lv_iand hx hb dJ6_bitCount_0f7a4_32 ?_
  refine lv_istore_n (lv' := [(0, .int (((((x0 - ((ushr x0 1) &&& 1431655765)) &&& 858993459) + ((ushr (x0 - ((ushr x0 1) &&& 1431655765)) 2) &&& 858993459)) + (ushr (((x0 - ((ushr x0 1) &&& 1431655765)) &&& 858993459) + ((ushr (x0 - ((ushr x0 1) &&& 1431655765)) 2) &&& 858993459)) 4)) &&& 252645135))]) hx hb dJ6_bitCount_0f7a4_33 rfl hl (by decide) rfl (fun ls hl => ?_)
  refine lv_iload_n hx hb dJ6_bitCount_0f7a4_34 rfl (lv_at hl 0 rfl) ?_
  refine lv_iload_n hx hb dJ6_bitCount_0f7a4_35 rfl (lv_at hl 0 rfl) ?_
  refine lv_bipush (v := 8) hx hb dJ6_bitCount_0f7a4_36 (by decide) ?_
  refine lv_iushr (v := (ushr (((((x0 - ((ushr x0 1) &&& 1431655765)) &&& 858993459) + ((ushr (x0 - ((ushr x0 1) &&& 1431655765)) 2) &&& 858993459)) + (ushr (((x0 - ((ushr x0 1) &&& 1431655765)) &&& 858993459) + ((ushr (x0 - ((ushr x0 1) &&& 1431655765)) 2) &&& 858993459)) 4)) &&& 252645135) 8)) hx hb dJ6_bitCount_0f7a4_38 rfl ?_
  refine lv_iadd hx hb dJ6_bitCount_0f7a4_39 ?_
  refine lv_istore_n (lv' := [(0, .int ((((((x0 - ((ushr x0 1) &&& 1431655765)) &&& 858993459) + ((ushr (x0 - ((ushr x0 1) &&& 1431655765)) 2) &&& 858993459)) + (ushr (((x0 - ((ushr x0 1) &&& 1431655765)) &&& 858993459) + ((ushr (x0 - ((ushr x0 1) &&& 1431655765)) 2) &&& 858993459)) 4)) &&& 252645135) + (ushr (((((x0 - ((ushr x0 1) &&& 1431655765)) &&& 858993459) + ((ushr (x0 - ((ushr x0 1) &&& 1431655765)) 2) &&& 858993459)) + (ushr (((x0 - ((ushr x0 1) &&& 1431655765)) &&& 858993459) + ((ushr (x0 - ((ushr x0 1) &&& 1431655765)) 2) &&& 858993459)) 4)) &&& 252645135) 8)))]) hx hb dJ6_bitCount_0f7a4_40 rfl hl (by decide) rfl (fun ls hl => ?_)
  refine lv_iload_n hx hb dJ6_bitCount_0f7a4_41 rfl (lv_at hl 0 rfl) ?_
  refine lv_iload_n hx hb dJ6_bitCount_0f7a4_42 rfl (lv_at hl 0 rfl) ?_
  refine lv_bipush (v := 16) hx hb dJ6_bitCount_0f7a4_43 (by decide) ?_
  refine lv_iushr (v := (ushr ((((((x0 - ((ushr x0 1) &&& 1431655765)) &&& 858993459) + ((ushr (x0 - ((ushr x0 1) &&& 1431655765)) 2) &&& 858993459)) + (ushr (((x0 - ((ushr x0 1) &&& 1431655765)) &&& 858993459) + ((ushr (x0 - ((ushr x0 1) &&& 1431655765)) 2) &&& 858993459)) 4)) &&& 252645135) + (ushr (((((x0 - ((ushr x0 1) &&& 1431655765)) &&& 858993459) + ((ushr (x0 - ((ushr x0 1) &&& 1431655765)) 2) &&& 858993459)) + (ushr (((x0 - ((ushr x0 1) &&& 1431655765)) &&& 858993459) + ((ushr (x0 - ((ushr x0 1) &&& 1431655765)) 2) &&& 858993459)) 4)) &&& 252645135) 8)) 16)) hx hb dJ6_bitCount_0f7a4_45 rfl ?_
  refine lv_iadd hx hb dJ6_bitCount_0f7a4_46 ?_
  refine lv_istore_n (lv' := [(0, .int (((((((x0 - ((ushr x0 1) &&& 1431655765)) &&& 858993459) + ((ushr (x0 - ((ushr x0 1) &&& 1431655765)) 2) &&& 858993459)) + (ushr (((x0 - ((ushr x0 1) &&& 1431655765)) &&& 858993459) + ((ushr (x0 - ((ushr x0 1) &&& 1431655765)) 2) &&& 858993459)) 4)) &&& 252645135) + (ushr (((((x0 - ((ushr x0 1) &&& 1431655765)) &&& 858993459) + ((ushr (x0 - ((ushr x0 1) &&& 1431655765)) 2) &&& 858993459)) + (ushr (((x0 - ((ushr x0 1) &&& 1431655765)) &&& 858993459) + ((ushr (x0 - ((ushr x0 1) &&& 1431655765)) 2) &&& 858993459)) 4)) &&& 252645135) 8)) + (ushr ((((((x0 - ((ushr x0 1) &&& 1431655765)) &&& 858993459) + ((ushr (x0 - ((ushr x0 1) &&& 1431655765)) 2) &&& 858993459)) + (ushr (((x0 - ((ushr x0 1) &&& 1431655765)) &&& 858993459) + ((ushr (x0 - ((ushr x0 1) &&& 1431655765)) 2) &&& 858993459)) 4)) &&& 252645135) + (ushr (((((x0 - ((ushr x0 1) &&& 1431655765)) &&& 858993459) + ((ushr (x0 - ((ushr x0 1) &&& 1431655765)) 2) &&& 858993459)) + (ushr (((x0 - ((ushr x0 1) &&& 1431655765)) &&& 858993459) + ((ushr (x0 - ((ushr x0 1) &&& 1431655765)) 2) &&& 858993459)) 4)) &&& 252645135) 8)) 16)))]) hx hb dJ6_bitCount_0f7a4_47 rfl hl (by decide) rfl (fun ls hl => ?_)
  refine lv_iload_n hx hb dJ6_bitCount_0f7a4_48 rfl (lv_at hl 0 rfl) ?_
  refine lv_bipush (v := 63) hx hb dJ6_bitCount_0f7a4_49 (by decide) ?_
  refine lv_iand hx hb dJ6_bitCount_0f7a4_51 ?_
  cases hres
  exact ret_i C0 hP hD hS dJ6_bitCount_0f7a4_52
set_option maxHeartbeats 4000000 in
set_option maxRecDepth 100000 in
theorem w_X5_numberOfRow_L13 {p : Program} {l : Launch} {e : Env} {s : State} {m : MethodId} {args : Array Value} {below : List Frame} {meth : Method} {c : Code} {g : gG} {A : Nat → Prop} {q_this q_keepers q_changed q_row : Nat} {v_rocks : Int32} {v_many : Int32} {f_row : Nat → Int32} {u0 : Int32} {k : Int32 → Int32 → Int32 → Option (Int32)} {n : Nat} {x1 : Int32} {x2 : Int32} {x3 : Int32} {H : Heap} {locs : List Loc} {ls : Array Slot} (C0 : Cx p s m args meth c RX5 cX5_numberOfRow 6 wsX5_numberOfRow (some .int) g A)
    (hP : va_P g.1 vwCl [(q_this, .inr (5, [.int v_rocks, .int v_many, .ref q_keepers, .ref q_changed, .ref q_row])), (q_row, .inl (g.2.1, 6, .inl f_row))] H) (hD : va_D A [(q_this, .inr (5, [.int v_rocks, .int v_many, .ref q_keepers, .ref q_changed, .ref q_row])), (q_row, .inl (g.2.1, 6, .inl f_row))]) (hS : va_S A s.heap H locs) (hl : lv_has ls 6 [(0, .ref q_this), (1, .int x1), (2, .int x2), (3, .int x3)]) (hres : lp_X5_numberOfRow_L13 v_rocks f_row k n x1 x2 x3 = some u0)
    (K : ∀ (x1 : Int32) (x2 : Int32) (x3 : Int32) (H : Heap) (locs : List Loc) (ls : Array Slot), va_P g.1 vwCl [(q_this, .inr (5, [.int v_rocks, .int v_many, .ref q_keepers, .ref q_changed, .ref q_row])), (q_row, .inl (g.2.1, 6, .inl f_row))] H → va_D A [(q_this, .inr (5, [.int v_rocks, .int v_many, .ref q_keepers, .ref q_changed, .ref q_row])), (q_row, .inl (g.2.1, 6, .inl f_row))] → va_S A s.heap H locs → lv_has ls 6 [(0, .ref q_this), (1, .int x1), (2, .int x2), (3, .int x3)] → k x1 x2 x3 = some u0 → W p l e rm_X5_numberOfRow s m args below meth c H locs 0 0 (MQ below (gQi g [(q_this, .inr (5, [.int v_rocks, .int v_many, .ref q_keepers, .ref q_changed, .ref q_row])), (q_row, .inl (g.2.1, 6, .inl f_row))] u0 A) args s 0 0 A) (F0 m 76 ls [])) :
    W p l e rm_X5_numberOfRow s m args below meth c H locs 0 0 (MQ below (gQi g [(q_this, .inr (5, [.int v_rocks, .int v_many, .ref q_keepers, .ref q_changed, .ref q_row])), (q_row, .inl (g.2.1, 6, .inl f_row))] u0 A) args s 0 0 A) (F0 m 13 ls []) := by
  obtain ⟨hx, hb, hml, hown, hts, hr, hlk, hN, hK, hF, hA⟩ := id C0
  induction n generalizing x1 x2 x3 H locs ls with
  | zero => cases hres
  | succ n ih =>
    unfold lp_X5_numberOfRow_L13 at hres
    refine lv_iload_n hx hb dX5_numberOfRow_13 rfl (lv_at hl 3 rfl) ?_
    refine lv_aload_n hx hb dX5_numberOfRow_14 rfl (lv_at hl 0 rfl) ?_
    refine va_get (D := g.1) (ci := 5) (v := .int v_rocks) (C := RX5) (T := TX5) (N := 5) hx hb hts in_X5_numberOfRow_X5 hown hK hP 0 rfl rfl 0 (by decide) (hts (.fieldLink RX5 25 "LightKeepers$Ways" "rocks" "I") (List.mem_of_getElem? (i := 1) rfl)) (fun _ h9 => h9) rfl dX5_numberOfRow_15 ?_
    refine lv_icmp_ge (tgt := 76) hx hb dX5_numberOfRow_18 (by decide) (fun c1 => ?_) (fun c1 => ?_)
    · have hres := it_t hres c1
      exact K _ _ _ _ _ _ hP hD hS hl hres
    · have hres := it_f hres c1
      refine lv_aload_n hx hb dX5_numberOfRow_21 rfl (lv_at hl 0 rfl) ?_
      refine va_get (D := g.1) (ci := 5) (v := .ref q_row) (C := RX5) (T := TX5) (N := 5) hx hb hts in_X5_numberOfRow_X5 hown hK hP 0 rfl rfl 4 (by decide) (hts (.fieldLink RX5 22 "LightKeepers$Ways" "row" "[I") (List.mem_of_getElem? (i := 2) rfl)) (fun _ h9 => h9) rfl dX5_numberOfRow_22 ?_
      refine lv_iload_n hx hb dX5_numberOfRow_25 rfl (lv_at hl 3 rfl) ?_
      obtain ⟨u2, hu2, hres⟩ := bd hres
      refine k_i C0 (run_SN (As := [.ref q_row, .int x3]) (rest := []) C0 (c_X6_item l g (q_a0 := q_row) (n_a0 := 6) (f_a0 := f_row) (x1 := x3) (u0 := u2) hu2 _) 2 gX5_numberOfRow_X6_item_n60 rfl rfl rfl (List.mem_of_getElem? (i := 14) rfl) (List.mem_of_getElem? (i := 3) rfl) (List.mem_of_getElem? (i := 4) rfl) hd_X6_item ⟨Nat.le_of_ble_eq_true rfl, Nat.le_of_ble_eq_true rfl⟩ hP hD hS [1] rfl rfl rfl hl.1 rfl (Nat.le_of_ble_eq_true rfl) ⟨Nat.zero_le _, Nat.zero_le _⟩ dX5_numberOfRow_26) hP hD hS [1] [0] rfl rfl rfl (by decide) (fun H locs hP hD hS => ?_)
      have hP : va_P g.1 vwCl [(q_this, .inr (5, [.int v_rocks, .int v_many, .ref q_keepers, .ref q_changed, .ref q_row])), (q_row, .inl (g.2.1, 6, .inl f_row))] H := hP
      have hD : va_D A [(q_this, .inr (5, [.int v_rocks, .int v_many, .ref q_keepers, .ref q_changed, .ref q_row])), (q_row, .inl (g.2.1, 6, .inl f_row))] := hD
      refine lv_istore (lv' := [(4, .int u2), (0, .ref q_this), (1, .int x1), (2, .int x2), (3, .int x3)]) hx hb dX5_numberOfRow_29 hl (by decide) rfl (fun ls hl => ?_)
      refine lv_iload_n hx hb dX5_numberOfRow_31 rfl (lv_at hl 3 rfl) ?_
      refine lv_iconst (v := 1) hx hb dX5_numberOfRow_32 (by decide) ?_
      refine lv_iload hx hb dX5_numberOfRow_33 (lv_at hl 0 rfl) ?_
      refine lv_ishl hx hb dX5_numberOfRow_35 ?_
      refine lv_iconst (v := 1) hx hb dX5_numberOfRow_36 (by decide) ?_
      refine lv_isub hx hb dX5_numberOfRow_37 ?_
      refine lv_iand hx hb dX5_numberOfRow_38 ?_
      obtain ⟨u3, hu3, hres⟩ := bd hres
      refine k_i C0 (run_S (As := [.int (x2 &&& ((1 <<< (u2 &&& 31)) - 1))]) (rest := []) C0 (c_J6_bitCount_0f7a4 l g (x0 := (x2 &&& ((1 <<< (u2 &&& 31)) - 1))) (u0 := u3) hu3 _) 1 gX5_numberOfRow_J6_bitCount_0f7a4 rfl rfl rfl hd_J6_bitCount_0f7a4 ⟨Nat.le_of_ble_eq_true rfl, Nat.le_of_ble_eq_true rfl⟩ hP hD hS [] rfl rfl rfl hl.1 rfl (Nat.le_of_ble_eq_true rfl) ⟨Nat.zero_le _, Nat.zero_le _⟩ dX5_numberOfRow_39) hP hD hS [] [0, 1] rfl rfl rfl (by decide) (fun H locs hP hD hS => ?_)
      have hP : va_P g.1 vwCl [(q_this, .inr (5, [.int v_rocks, .int v_many, .ref q_keepers, .ref q_changed, .ref q_row])), (q_row, .inl (g.2.1, 6, .inl f_row))] H := hP
      have hD : va_D A [(q_this, .inr (5, [.int v_rocks, .int v_many, .ref q_keepers, .ref q_changed, .ref q_row])), (q_row, .inl (g.2.1, 6, .inl f_row))] := hD
      refine lv_istore (lv' := [(5, .int u3), (4, .int u2), (0, .ref q_this), (1, .int x1), (2, .int x2), (3, .int x3)]) hx hb dX5_numberOfRow_42 hl (by decide) rfl (fun ls hl => ?_)
      refine lv_iload_n hx hb dX5_numberOfRow_44 rfl (lv_at hl 3 rfl) ?_
      refine lv_iload hx hb dX5_numberOfRow_45 (lv_at hl 0 rfl) ?_
      refine lv_aload_n hx hb dX5_numberOfRow_47 rfl (lv_at hl 2 rfl) ?_
      refine va_get (D := g.1) (ci := 5) (v := .int v_rocks) (C := RX5) (T := TX5) (N := 5) hx hb hts in_X5_numberOfRow_X5 hown hK hP 0 rfl rfl 0 (by decide) (hts (.fieldLink RX5 25 "LightKeepers$Ways" "rocks" "I") (List.mem_of_getElem? (i := 1) rfl)) (fun _ h9 => h9) rfl dX5_numberOfRow_48 ?_
      refine lv_iconst (v := 1) hx hb dX5_numberOfRow_51 (by decide) ?_
      refine lv_isub hx hb dX5_numberOfRow_52 ?_
      refine lv_iload_n hx hb dX5_numberOfRow_53 rfl (lv_at hl 5 rfl) ?_
      refine lv_isub hx hb dX5_numberOfRow_54 ?_
      obtain ⟨u4, hu4, hres⟩ := bd hres
      refine k_i C0 (run_S (As := [.int ((v_rocks - 1) - x3)]) (rest := [.int u3, .int x1]) C0 (c_X5_factorial l g (x0 := ((v_rocks - 1) - x3)) (u0 := u4) hu4 _) 1 gX5_numberOfRow_X5_factorial rfl rfl rfl hd_X5_factorial ⟨Nat.le_of_ble_eq_true rfl, Nat.le_of_ble_eq_true rfl⟩ hP hD hS [] rfl rfl rfl hl.1 rfl (Nat.le_of_ble_eq_true rfl) ⟨Nat.zero_le _, Nat.zero_le _⟩ dX5_numberOfRow_55) hP hD hS [] [0, 1] rfl rfl rfl (by decide) (fun H locs hP hD hS => ?_)
      have hP : va_P g.1 vwCl [(q_this, .inr (5, [.int v_rocks, .int v_many, .ref q_keepers, .ref q_changed, .ref q_row])), (q_row, .inl (g.2.1, 6, .inl f_row))] H := hP
      have hD : va_D A [(q_this, .inr (5, [.int v_rocks, .int v_many, .ref q_keepers, .ref q_changed, .ref q_row])), (q_row, .inl (g.2.1, 6, .inl f_row))] := hD
      refine lv_imul hx hb dX5_numberOfRow_58 ?_
      refine lv_iadd hx hb dX5_numberOfRow_59 ?_
      refine lv_istore_n (lv' := [(1, .int (x1 + (u3 * u4))), (5, .int u3), (4, .int u2), (0, .ref q_this), (2, .int x2), (3, .int x3)]) hx hb dX5_numberOfRow_60 rfl hl (by decide) rfl (fun ls hl => ?_)
      refine lv_iload_n hx hb dX5_numberOfRow_61 rfl (lv_at hl 4 rfl) ?_
      refine lv_iconst (v := 1) hx hb dX5_numberOfRow_62 (by decide) ?_
      refine lv_iload hx hb dX5_numberOfRow_63 (lv_at hl 2 rfl) ?_
      refine lv_ishl hx hb dX5_numberOfRow_65 ?_
      refine lv_iconst (v := (-1)) hx hb dX5_numberOfRow_66 (by decide) ?_
      refine lv_ixor hx hb dX5_numberOfRow_67 ?_
      refine lv_iand hx hb dX5_numberOfRow_68 ?_
      refine lv_istore_n (lv' := [(2, .int (x2 &&& ((1 <<< (u2 &&& 31)) ^^^ (-1)))), (1, .int (x1 + (u3 * u4))), (5, .int u3), (4, .int u2), (0, .ref q_this), (3, .int x3)]) hx hb dX5_numberOfRow_69 rfl hl (by decide) rfl (fun ls hl => ?_)
      refine lv_iinc (v := (x3 + 1)) (lv' := [(3, .int (x3 + 1)), (2, .int (x2 &&& ((1 <<< (u2 &&& 31)) ^^^ (-1)))), (1, .int (x1 + (u3 * u4))), (5, .int u3), (4, .int u2), (0, .ref q_this)]) hx hb dX5_numberOfRow_70 hl (k := 5) rfl rfl (by decide) rfl (fun ls hl => ?_)
      refine lv_goto (tgt := 13) hx hb dX5_numberOfRow_73 (by decide) ?_
      have hl : lv_has ls 6 [(0, .ref q_this), (1, .int (x1 + (u3 * u4))), (2, .int (x2 &&& ((1 <<< (u2 &&& 31)) ^^^ (-1)))), (3, .int (x3 + 1))] := lv_sub hl [5, 2, 1, 0] rfl
      exact ih hP hS hl hres
set_option maxHeartbeats 4000000 in
set_option maxRecDepth 100000 in
theorem c_X5_numberOfRow (l : Launch) (g : gG) {q_this q_keepers q_changed q_row : Nat} {v_rocks : Int32} {v_many : Int32} {f_row : Nat → Int32} {u0 : Int32} (hres : f_X5_numberOfRow v_rocks f_row = some u0) : Ci l g yX5_numberOfRow wsX5_numberOfRow rm_X5_numberOfRow [.ref q_this] [(q_this, .inr (5, [.int v_rocks, .int v_many, .ref q_keepers, .ref q_changed, .ref q_row])), (q_row, .inl (g.2.1, 6, .inl f_row))] [(q_this, .inr (5, [.int v_rocks, .int v_many, .ref q_keepers, .ref q_changed, .ref q_row])), (q_row, .inl (g.2.1, 6, .inl f_row))] u0 := by
  intro sz
  refine gBody (Qf := fun A => gQi g [(q_this, .inr (5, [.int v_rocks, .int v_many, .ref q_keepers, .ref q_changed, .ref q_row])), (q_row, .inl (g.2.1, 6, .inl f_row))] u0 A) (cc := cX5_numberOfRow) (maxL := 6) (ret := (some .int)) (own := RX5) (by decide +kernel) rfl rfl (Nat.le_of_ble_eq_true rfl) ?_
  intro p e s m args below meth c A C0 H hS hD hP ls hl
  obtain ⟨hx, hb, hml, hown, hts, hr, hlk, hN, hK, hF, hA⟩ := id C0
  have hl : lv_has ls 6 [(0, .ref q_this)] := hl
  unfold f_X5_numberOfRow at hres
  refine lv_iconst (v := 0) hx hb dX5_numberOfRow_0 (by decide) ?_
  refine lv_istore_n (lv' := [(1, .int 0), (0, .ref q_this)]) hx hb dX5_numberOfRow_1 rfl hl (by decide) rfl (fun ls hl => ?_)
  refine lv_iconst (v := 1) hx hb dX5_numberOfRow_2 (by decide) ?_
  refine lv_aload_n hx hb dX5_numberOfRow_3 rfl (lv_at hl 1 rfl) ?_
  refine va_get (D := g.1) (ci := 5) (v := .int v_rocks) (C := RX5) (T := TX5) (N := 5) hx hb hts in_X5_numberOfRow_X5 hown hK hP 0 rfl rfl 0 (by decide) (hts (.fieldLink RX5 25 "LightKeepers$Ways" "rocks" "I") (List.mem_of_getElem? (i := 1) rfl)) (fun _ h9 => h9) rfl dX5_numberOfRow_4 ?_
  refine lv_ishl hx hb dX5_numberOfRow_7 ?_
  refine lv_iconst (v := 1) hx hb dX5_numberOfRow_8 (by decide) ?_
  refine lv_isub hx hb dX5_numberOfRow_9 ?_
  refine lv_istore_n (lv' := [(2, .int ((1 <<< (v_rocks &&& 31)) - 1)), (1, .int 0), (0, .ref q_this)]) hx hb dX5_numberOfRow_10 rfl hl (by decide) rfl (fun ls hl => ?_)
  refine lv_iconst (v := 0) hx hb dX5_numberOfRow_11 (by decide) ?_
  refine lv_istore_n (lv' := [(3, .int 0), (2, .int ((1 <<< (v_rocks &&& 31)) - 1)), (1, .int 0), (0, .ref q_this)]) hx hb dX5_numberOfRow_12 rfl hl (by decide) rfl (fun ls hl => ?_)
  have hl : lv_has ls 6 [(0, .ref q_this), (1, .int 0), (2, .int ((1 <<< (v_rocks &&& 31)) - 1)), (3, .int 0)] := lv_sub hl [3, 2, 1, 0] rfl
  refine w_X5_numberOfRow_L13 C0 hP hD hS hl hres (fun y5 y6 y7 H locs ls hP hD hS hl hres => ?_)
  refine lv_iload_n hx hb dX5_numberOfRow_76 rfl (lv_at hl 1 rfl) ?_
  cases hres
  exact ret_i C0 hP hD hS dX5_numberOfRow_77
set_option maxHeartbeats 4000000 in
set_option maxRecDepth 100000 in
theorem c_X5_swapInRow (l : Launch) (g : gG) {q_this q_keepers q_changed q_row : Nat} {v_rocks : Int32} {v_many : Int32} {f_row : Nat → Int32} {x1 : Int32} {u0 : (Nat → Int32)} (hres : f_X5_swapInRow f_row x1 = some u0) : Cv l g yX5_swapInRow wsX5_swapInRow rm_X5_swapInRow [.ref q_this, .int x1] [(q_this, .inr (5, [.int v_rocks, .int v_many, .ref q_keepers, .ref q_changed, .ref q_row])), (q_row, .inl (g.2.1, 6, .inl f_row))] [(q_this, .inr (5, [.int v_rocks, .int v_many, .ref q_keepers, .ref q_changed, .ref q_row])), (q_row, .inl (g.2.1, 6, .inl u0))] := by
  intro sz
  refine gBody (Qf := fun A => gQv g [(q_this, .inr (5, [.int v_rocks, .int v_many, .ref q_keepers, .ref q_changed, .ref q_row])), (q_row, .inl (g.2.1, 6, .inl u0))] A) (cc := cX5_swapInRow) (maxL := 3) (ret := none) (own := RX5) (by decide +kernel) rfl rfl (Nat.le_of_ble_eq_true rfl) ?_
  intro p e s m args below meth c A C0 H hS hD hP ls hl
  obtain ⟨hx, hb, hml, hown, hts, hr, hlk, hN, hK, hF, hA⟩ := id C0
  have hl : lv_has ls 3 [(0, .ref q_this), (1, .int x1)] := hl
  unfold f_X5_swapInRow at hres
  refine lv_aload_n hx hb dX5_swapInRow_0 rfl (lv_at hl 0 rfl) ?_
  refine va_get (D := g.1) (ci := 5) (v := .ref q_row) (C := RX5) (T := TX5) (N := 5) hx hb hts in_X5_swapInRow_X5 hown hK hP 0 rfl rfl 4 (by decide) (hts (.fieldLink RX5 22 "LightKeepers$Ways" "row" "[I") (List.mem_of_getElem? (i := 1) rfl)) (fun _ h9 => h9) rfl dX5_swapInRow_1 ?_
  refine lv_iload_n hx hb dX5_swapInRow_4 rfl (lv_at hl 1 rfl) ?_
  obtain ⟨u1, hu1, hres⟩ := bd hres
  refine k_i C0 (run_SN (As := [.ref q_row, .int x1]) (rest := []) C0 (c_X6_item l g (q_a0 := q_row) (n_a0 := 6) (f_a0 := f_row) (x1 := x1) (u0 := u1) hu1 _) 2 gX5_swapInRow_X6_item_n60 rfl rfl rfl (List.mem_of_getElem? (i := 14) rfl) (List.mem_of_getElem? (i := 2) rfl) (List.mem_of_getElem? (i := 3) rfl) hd_X6_item ⟨Nat.le_of_ble_eq_true rfl, Nat.le_of_ble_eq_true rfl⟩ hP hD hS [1] rfl rfl rfl hl.1 rfl (Nat.le_of_ble_eq_true rfl) ⟨Nat.zero_le _, Nat.zero_le _⟩ dX5_swapInRow_5) hP hD hS [1] [0] rfl rfl rfl (by decide) (fun H locs hP hD hS => ?_)
  have hP : va_P g.1 vwCl [(q_this, .inr (5, [.int v_rocks, .int v_many, .ref q_keepers, .ref q_changed, .ref q_row])), (q_row, .inl (g.2.1, 6, .inl f_row))] H := hP
  have hD : va_D A [(q_this, .inr (5, [.int v_rocks, .int v_many, .ref q_keepers, .ref q_changed, .ref q_row])), (q_row, .inl (g.2.1, 6, .inl f_row))] := hD
  refine lv_istore_n (lv' := [(2, .int u1), (0, .ref q_this), (1, .int x1)]) hx hb dX5_swapInRow_8 rfl hl (by decide) rfl (fun ls hl => ?_)
  refine lv_aload_n hx hb dX5_swapInRow_9 rfl (lv_at hl 1 rfl) ?_
  refine va_get (D := g.1) (ci := 5) (v := .ref q_row) (C := RX5) (T := TX5) (N := 5) hx hb hts in_X5_swapInRow_X5 hown hK hP 0 rfl rfl 4 (by decide) (hts (.fieldLink RX5 22 "LightKeepers$Ways" "row" "[I") (List.mem_of_getElem? (i := 1) rfl)) (fun _ h9 => h9) rfl dX5_swapInRow_10 ?_
  refine lv_iload_n hx hb dX5_swapInRow_13 rfl (lv_at hl 2 rfl) ?_
  refine lv_aload_n hx hb dX5_swapInRow_14 rfl (lv_at hl 1 rfl) ?_
  refine va_get (D := g.1) (ci := 5) (v := .ref q_row) (C := RX5) (T := TX5) (N := 5) hx hb hts in_X5_swapInRow_X5 hown hK hP 0 rfl rfl 4 (by decide) (hts (.fieldLink RX5 22 "LightKeepers$Ways" "row" "[I") (List.mem_of_getElem? (i := 1) rfl)) (fun _ h9 => h9) rfl dX5_swapInRow_15 ?_
  refine lv_iload_n hx hb dX5_swapInRow_18 rfl (lv_at hl 2 rfl) ?_
  refine lv_iconst (v := 1) hx hb dX5_swapInRow_19 (by decide) ?_
  refine lv_iadd hx hb dX5_swapInRow_20 ?_
  obtain ⟨u2, hu2, hres⟩ := bd hres
  refine k_i C0 (run_SN (As := [.ref q_row, .int (x1 + 1)]) (rest := [.int x1, .ref q_row]) C0 (c_X6_item l g (q_a0 := q_row) (n_a0 := 6) (f_a0 := f_row) (x1 := (x1 + 1)) (u0 := u2) hu2 _) 2 gX5_swapInRow_X6_item_n60 rfl rfl rfl (List.mem_of_getElem? (i := 14) rfl) (List.mem_of_getElem? (i := 2) rfl) (List.mem_of_getElem? (i := 3) rfl) hd_X6_item ⟨Nat.le_of_ble_eq_true rfl, Nat.le_of_ble_eq_true rfl⟩ hP hD hS [1] rfl rfl rfl hl.1 rfl (Nat.le_of_ble_eq_true rfl) ⟨Nat.zero_le _, Nat.zero_le _⟩ dX5_swapInRow_21) hP hD hS [1] [0] rfl rfl rfl (by decide) (fun H locs hP hD hS => ?_)
  have hP : va_P g.1 vwCl [(q_this, .inr (5, [.int v_rocks, .int v_many, .ref q_keepers, .ref q_changed, .ref q_row])), (q_row, .inl (g.2.1, 6, .inl f_row))] H := hP
  have hD : va_D A [(q_this, .inr (5, [.int v_rocks, .int v_many, .ref q_keepers, .ref q_changed, .ref q_row])), (q_row, .inl (g.2.1, 6, .inl f_row))] := hD
  obtain ⟨u3, hu3, hres⟩ := bd hres
  refine k_v C0 (run_SN (As := [.ref q_row, .int x1, .int u2]) (rest := []) C0 (c_X6_put l g (q_a0 := q_row) (n_a0 := 6) (f_a0 := f_row) (x1 := x1) (x2 := u2) (u0 := u3) hu3 _) 3 gX5_swapInRow_X6_put_n49 rfl rfl rfl (List.mem_of_getElem? (i := 13) rfl) (List.mem_of_getElem? (i := 5) rfl) (List.mem_of_getElem? (i := 3) rfl) hd_X6_put ⟨Nat.le_of_ble_eq_true rfl, Nat.le_of_ble_eq_true rfl⟩ hP hD hS [1] rfl rfl rfl hl.1 rfl (Nat.le_of_ble_eq_true rfl) ⟨Nat.zero_le _, Nat.zero_le _⟩ dX5_swapInRow_24) hP hD hS [1] [0] rfl rfl rfl (by decide) (fun H locs hP hD hS => ?_)
  have hP : va_P g.1 vwCl [(q_this, .inr (5, [.int v_rocks, .int v_many, .ref q_keepers, .ref q_changed, .ref q_row])), (q_row, .inl (g.2.1, 6, .inl u3))] H := hP
  have hD : va_D A [(q_this, .inr (5, [.int v_rocks, .int v_many, .ref q_keepers, .ref q_changed, .ref q_row])), (q_row, .inl (g.2.1, 6, .inl u3))] := hD
  refine lv_aload_n hx hb dX5_swapInRow_27 rfl (lv_at hl 1 rfl) ?_
  refine va_get (D := g.1) (ci := 5) (v := .ref q_row) (C := RX5) (T := TX5) (N := 5) hx hb hts in_X5_swapInRow_X5 hown hK hP 0 rfl rfl 4 (by decide) (hts (.fieldLink RX5 22 "LightKeepers$Ways" "row" "[I") (List.mem_of_getElem? (i := 1) rfl)) (fun _ h9 => h9) rfl dX5_swapInRow_28 ?_
  refine lv_iload_n hx hb dX5_swapInRow_31 rfl (lv_at hl 2 rfl) ?_
  refine lv_iconst (v := 1) hx hb dX5_swapInRow_32 (by decide) ?_
  refine lv_iadd hx hb dX5_swapInRow_33 ?_
  refine lv_iload_n hx hb dX5_swapInRow_34 rfl (lv_at hl 0 rfl) ?_
  obtain ⟨u4, hu4, hres⟩ := bd hres
  refine k_v C0 (run_SN (As := [.ref q_row, .int (x1 + 1), .int u1]) (rest := []) C0 (c_X6_put l g (q_a0 := q_row) (n_a0 := 6) (f_a0 := u3) (x1 := (x1 + 1)) (x2 := u1) (u0 := u4) hu4 _) 3 gX5_swapInRow_X6_put_n49 rfl rfl rfl (List.mem_of_getElem? (i := 13) rfl) (List.mem_of_getElem? (i := 5) rfl) (List.mem_of_getElem? (i := 3) rfl) hd_X6_put ⟨Nat.le_of_ble_eq_true rfl, Nat.le_of_ble_eq_true rfl⟩ hP hD hS [1] rfl rfl rfl hl.1 rfl (Nat.le_of_ble_eq_true rfl) ⟨Nat.zero_le _, Nat.zero_le _⟩ dX5_swapInRow_35) hP hD hS [1] [0] rfl rfl rfl (by decide) (fun H locs hP hD hS => ?_)
  have hP : va_P g.1 vwCl [(q_this, .inr (5, [.int v_rocks, .int v_many, .ref q_keepers, .ref q_changed, .ref q_row])), (q_row, .inl (g.2.1, 6, .inl u4))] H := hP
  have hD : va_D A [(q_this, .inr (5, [.int v_rocks, .int v_many, .ref q_keepers, .ref q_changed, .ref q_row])), (q_row, .inl (g.2.1, 6, .inl u4))] := hD
  cases hres
  exact ret_v C0 hP hD hS dX5_swapInRow_38
set_option maxHeartbeats 4000000 in
set_option maxRecDepth 100000 in
theorem w_X5_become_L77 {p : Program} {l : Launch} {e : Env} {s : State} {m : MethodId} {args : Array Value} {below : List Frame} {meth : Method} {c : Code} {g : gG} {A : Nat → Prop} {q_this q_keepers q_changed q_row : Nat} {v_rocks : Int32} {v_many : Int32} {f_keepers : Nat → Int32} {x2 : Int32} {u0 : Int32 × Int32 × (Nat → Int32) × (Nat → Int32) × (Nat → Int32)} {k : Int32 → (Nat → Int32) → (Nat → Int32) → Option (Int32 × Int32 × (Nat → Int32) × (Nat → Int32) × (Nat → Int32))} {n : Nat} {x3 : Int32} {f_row : Nat → Int32} {f_changed : Nat → Int32} {H : Heap} {locs : List Loc} {ls : Array Slot} (C0 : Cx p s m args meth c RX5 cX5_become 4 wsX5_become none g A)
    (hP : va_P g.1 vwCl [(q_this, .inr (5, [.int v_rocks, .int v_many, .ref q_keepers, .ref q_changed, .ref q_row])), (q_row, .inl (g.2.1, 6, .inl f_row)), (q_keepers, .inl (g.2.1, 4320, .inl f_keepers)), (q_changed, .inl (g.2.1, 3600, .inl f_changed))] H) (hD : va_D A [(q_this, .inr (5, [.int v_rocks, .int v_many, .ref q_keepers, .ref q_changed, .ref q_row])), (q_row, .inl (g.2.1, 6, .inl f_row)), (q_keepers, .inl (g.2.1, 4320, .inl f_keepers)), (q_changed, .inl (g.2.1, 3600, .inl f_changed))]) (hS : va_S A s.heap H locs) (hl : lv_has ls 4 [(0, .ref q_this), (2, .int x2), (3, .int x3)]) (hres : lp_X5_become_L77 v_rocks x2 k n x3 f_row f_changed = some u0)
    (K : ∀ (x3 : Int32) (f_row : Nat → Int32) (f_changed : Nat → Int32) (H : Heap) (locs : List Loc) (ls : Array Slot), va_P g.1 vwCl [(q_this, .inr (5, [.int v_rocks, .int v_many, .ref q_keepers, .ref q_changed, .ref q_row])), (q_row, .inl (g.2.1, 6, .inl f_row)), (q_keepers, .inl (g.2.1, 4320, .inl f_keepers)), (q_changed, .inl (g.2.1, 3600, .inl f_changed))] H → va_D A [(q_this, .inr (5, [.int v_rocks, .int v_many, .ref q_keepers, .ref q_changed, .ref q_row])), (q_row, .inl (g.2.1, 6, .inl f_row)), (q_keepers, .inl (g.2.1, 4320, .inl f_keepers)), (q_changed, .inl (g.2.1, 3600, .inl f_changed))] → va_S A s.heap H locs → lv_has ls 4 [(0, .ref q_this), (2, .int x2), (3, .int x3)] → k x3 f_row f_changed = some u0 → W p l e rm_X5_become s m args below meth c H locs 0 0 (MQ below (gQv g [(q_this, .inr (5, [.int u0.1, .int u0.2.1, .ref q_keepers, .ref q_changed, .ref q_row])), (q_row, .inl (g.2.1, 6, .inl u0.2.2.1)), (q_keepers, .inl (g.2.1, 4320, .inl u0.2.2.2.1)), (q_changed, .inl (g.2.1, 3600, .inl u0.2.2.2.2))] A) args s 0 0 A) (F0 m 119 ls [])) :
    W p l e rm_X5_become s m args below meth c H locs 0 0 (MQ below (gQv g [(q_this, .inr (5, [.int u0.1, .int u0.2.1, .ref q_keepers, .ref q_changed, .ref q_row])), (q_row, .inl (g.2.1, 6, .inl u0.2.2.1)), (q_keepers, .inl (g.2.1, 4320, .inl u0.2.2.2.1)), (q_changed, .inl (g.2.1, 3600, .inl u0.2.2.2.2))] A) args s 0 0 A) (F0 m 77 ls []) := by
  obtain ⟨hx, hb, hml, hown, hts, hr, hlk, hN, hK, hF, hA⟩ := id C0
  induction n generalizing x3 f_row f_changed H locs ls with
  | zero => cases hres
  | succ n ih =>
    unfold lp_X5_become_L77 at hres
    refine lv_iload_n hx hb dX5_become_77 rfl (lv_at hl 2 rfl) ?_
    refine lv_iconst (v := 1) hx hb dX5_become_78 (by decide) ?_
    refine lv_iadd hx hb dX5_become_79 ?_
    refine lv_aload_n hx hb dX5_become_80 rfl (lv_at hl 0 rfl) ?_
    refine va_get (D := g.1) (ci := 5) (v := .int v_rocks) (C := RX5) (T := TX5) (N := 5) hx hb hts in_X5_become_X5 hown hK hP 0 rfl rfl 0 (by decide) (hts (.fieldLink RX5 25 "LightKeepers$Ways" "rocks" "I") (List.mem_of_getElem? (i := 1) rfl)) (fun _ h9 => h9) rfl dX5_become_81 ?_
    refine lv_icmp_ge (tgt := 119) hx hb dX5_become_84 (by decide) (fun c9 => ?_) (fun c9 => ?_)
    · have hres := it_t hres c9
      exact K _ _ _ _ _ _ hP hD hS hl hres
    · have hres := it_f hres c9
      refine lv_aload_n hx hb dX5_become_87 rfl (lv_at hl 0 rfl) ?_
      refine lv_iload_n hx hb dX5_become_88 rfl (lv_at hl 2 rfl) ?_
      obtain ⟨u10, hu10, hres⟩ := bd hres
      refine k_v C0 (run_V (As := [.int x3]) (rest := []) C0 (c_X5_swapInRow l g (q_this := q_this) (q_keepers := q_keepers) (q_changed := q_changed) (q_row := q_row) (v_rocks := v_rocks) (v_many := v_many) (f_row := f_row) (x1 := x3) (u0 := u10) hu10 _) 1 gX5_become_X5_swapInRow rfl rfl rfl hd_X5_swapInRow ⟨Nat.le_of_ble_eq_true rfl, Nat.le_of_ble_eq_true rfl⟩ hP hD hS [0, 1] rfl rfl 0 5 rfl rfl rfl hl.1 rfl (Nat.le_of_ble_eq_true rfl) ⟨Nat.zero_le _, Nat.zero_le _⟩ dX5_become_89) hP hD hS [0, 1] [2, 3] rfl rfl rfl (by decide) (fun H locs hP hD hS => ?_)
      have hP : va_P g.1 vwCl [(q_keepers, .inl (g.2.1, 4320, .inl f_keepers)), (q_changed, .inl (g.2.1, 3600, .inl f_changed)), (q_this, .inr (5, [.int v_rocks, .int v_many, .ref q_keepers, .ref q_changed, .ref q_row])), (q_row, .inl (g.2.1, 6, .inl u10))] H := hP
      have hD : va_D A [(q_keepers, .inl (g.2.1, 4320, .inl f_keepers)), (q_changed, .inl (g.2.1, 3600, .inl f_changed)), (q_this, .inr (5, [.int v_rocks, .int v_many, .ref q_keepers, .ref q_changed, .ref q_row])), (q_row, .inl (g.2.1, 6, .inl u10))] := hD
      refine lv_aload_n hx hb dX5_become_92 rfl (lv_at hl 0 rfl) ?_
      refine va_get (D := g.1) (ci := 5) (v := .ref q_changed) (C := RX5) (T := TX5) (N := 5) hx hb hts in_X5_become_X5 hown hK hP 2 rfl rfl 3 (by decide) (hts (.fieldLink RX5 19 "LightKeepers$Ways" "changed" "[I") (List.mem_of_getElem? (i := 9) rfl)) (fun _ h9 => h9) rfl dX5_become_93 ?_
      refine lv_iload_n hx hb dX5_become_96 rfl (lv_at hl 1 rfl) ?_
      refine lv_iconst (v := 5) hx hb dX5_become_97 (by decide) ?_
      refine lv_imul hx hb dX5_become_98 ?_
      refine lv_iload_n hx hb dX5_become_99 rfl (lv_at hl 2 rfl) ?_
      refine lv_iadd hx hb dX5_become_100 ?_
      refine lv_aload_n hx hb dX5_become_101 rfl (lv_at hl 0 rfl) ?_
      obtain ⟨u11, hu11, hres⟩ := bd hres
      refine k_i C0 (run_V (As := []) (rest := [.int ((x2 * 5) + x3), .ref q_changed]) C0 (c_X5_numberOfRow l g (q_this := q_this) (q_keepers := q_keepers) (q_changed := q_changed) (q_row := q_row) (v_rocks := v_rocks) (v_many := v_many) (f_row := u10) (u0 := u11) hu11 _) 0 gX5_become_X5_numberOfRow rfl rfl rfl hd_X5_numberOfRow ⟨Nat.le_of_ble_eq_true rfl, Nat.le_of_ble_eq_true rfl⟩ hP hD hS [2, 3] rfl rfl 2 5 rfl rfl rfl hl.1 rfl (Nat.le_of_ble_eq_true rfl) ⟨Nat.zero_le _, Nat.zero_le _⟩ dX5_become_102) hP hD hS [2, 3] [0, 1] rfl rfl rfl (by decide) (fun H locs hP hD hS => ?_)
      have hP : va_P g.1 vwCl [(q_keepers, .inl (g.2.1, 4320, .inl f_keepers)), (q_changed, .inl (g.2.1, 3600, .inl f_changed)), (q_this, .inr (5, [.int v_rocks, .int v_many, .ref q_keepers, .ref q_changed, .ref q_row])), (q_row, .inl (g.2.1, 6, .inl u10))] H := hP
      have hD : va_D A [(q_keepers, .inl (g.2.1, 4320, .inl f_keepers)), (q_changed, .inl (g.2.1, 3600, .inl f_changed)), (q_this, .inr (5, [.int v_rocks, .int v_many, .ref q_keepers, .ref q_changed, .ref q_row])), (q_row, .inl (g.2.1, 6, .inl u10))] := hD
      obtain ⟨u12, hu12, hres⟩ := bd hres
      refine k_v C0 (run_SN (As := [.ref q_changed, .int ((x2 * 5) + x3), .int u11]) (rest := []) C0 (c_X6_put l g (q_a0 := q_changed) (n_a0 := 3600) (f_a0 := f_changed) (x1 := ((x2 * 5) + x3)) (x2 := u11) (u0 := u12) hu12 _) 3 gX5_become_X6_put_n49 rfl rfl rfl (List.mem_of_getElem? (i := 13) rfl) (List.mem_of_getElem? (i := 22) rfl) (List.mem_of_getElem? (i := 23) rfl) hd_X6_put ⟨Nat.le_of_ble_eq_true rfl, Nat.le_of_ble_eq_true rfl⟩ hP hD hS [1] rfl rfl rfl hl.1 rfl (Nat.le_of_ble_eq_true rfl) ⟨Nat.zero_le _, Nat.zero_le _⟩ dX5_become_105) hP hD hS [1] [0, 2, 3] rfl rfl rfl (by decide) (fun H locs hP hD hS => ?_)
      have hP : va_P g.1 vwCl [(q_keepers, .inl (g.2.1, 4320, .inl f_keepers)), (q_this, .inr (5, [.int v_rocks, .int v_many, .ref q_keepers, .ref q_changed, .ref q_row])), (q_row, .inl (g.2.1, 6, .inl u10)), (q_changed, .inl (g.2.1, 3600, .inl u12))] H := hP
      have hD : va_D A [(q_keepers, .inl (g.2.1, 4320, .inl f_keepers)), (q_this, .inr (5, [.int v_rocks, .int v_many, .ref q_keepers, .ref q_changed, .ref q_row])), (q_row, .inl (g.2.1, 6, .inl u10)), (q_changed, .inl (g.2.1, 3600, .inl u12))] := hD
      refine lv_aload_n hx hb dX5_become_108 rfl (lv_at hl 0 rfl) ?_
      refine lv_iload_n hx hb dX5_become_109 rfl (lv_at hl 2 rfl) ?_
      obtain ⟨u13, hu13, hres⟩ := bd hres
      refine k_v C0 (run_V (As := [.int x3]) (rest := []) C0 (c_X5_swapInRow l g (q_this := q_this) (q_keepers := q_keepers) (q_changed := q_changed) (q_row := q_row) (v_rocks := v_rocks) (v_many := v_many) (f_row := u10) (x1 := x3) (u0 := u13) hu13 _) 1 gX5_become_X5_swapInRow rfl rfl rfl hd_X5_swapInRow ⟨Nat.le_of_ble_eq_true rfl, Nat.le_of_ble_eq_true rfl⟩ hP hD hS [1, 2] rfl rfl 1 5 rfl rfl rfl hl.1 rfl (Nat.le_of_ble_eq_true rfl) ⟨Nat.zero_le _, Nat.zero_le _⟩ dX5_become_110) hP hD hS [1, 2] [0, 3] rfl rfl rfl (by decide) (fun H locs hP hD hS => ?_)
      have hP : va_P g.1 vwCl [(q_keepers, .inl (g.2.1, 4320, .inl f_keepers)), (q_changed, .inl (g.2.1, 3600, .inl u12)), (q_this, .inr (5, [.int v_rocks, .int v_many, .ref q_keepers, .ref q_changed, .ref q_row])), (q_row, .inl (g.2.1, 6, .inl u13))] H := hP
      have hD : va_D A [(q_keepers, .inl (g.2.1, 4320, .inl f_keepers)), (q_changed, .inl (g.2.1, 3600, .inl u12)), (q_this, .inr (5, [.int v_rocks, .int v_many, .ref q_keepers, .ref q_changed, .ref q_row])), (q_row, .inl (g.2.1, 6, .inl u13))] := hD
      refine lv_iinc (v := (x3 + 1)) (lv' := [(3, .int (x3 + 1)), (0, .ref q_this), (2, .int x2)]) hx hb dX5_become_113 hl (k := 2) rfl rfl (by decide) rfl (fun ls hl => ?_)
      refine lv_goto (tgt := 77) hx hb dX5_become_116 (by decide) ?_
      have hP : va_P g.1 vwCl [(q_this, .inr (5, [.int v_rocks, .int v_many, .ref q_keepers, .ref q_changed, .ref q_row])), (q_row, .inl (g.2.1, 6, .inl u13)), (q_keepers, .inl (g.2.1, 4320, .inl f_keepers)), (q_changed, .inl (g.2.1, 3600, .inl u12))] H := hP.sub [2, 3, 0, 1] rfl
      have hD : va_D A [(q_this, .inr (5, [.int v_rocks, .int v_many, .ref q_keepers, .ref q_changed, .ref q_row])), (q_row, .inl (g.2.1, 6, .inl u13)), (q_keepers, .inl (g.2.1, 4320, .inl f_keepers)), (q_changed, .inl (g.2.1, 3600, .inl u12))] := hD.sub [2, 3, 0, 1] (by decide) rfl
      have hl : lv_has ls 4 [(0, .ref q_this), (2, .int x2), (3, .int (x3 + 1))] := lv_sub hl [1, 2, 0] rfl
      exact ih hP hD hS hl hres
set_option maxHeartbeats 4000000 in
set_option maxRecDepth 100000 in
theorem w_X5_become_L37 {p : Program} {l : Launch} {e : Env} {s : State} {m : MethodId} {args : Array Value} {below : List Frame} {meth : Method} {c : Code} {g : gG} {A : Nat → Prop} {q_this q_keepers q_changed q_row : Nat} {v_rocks : Int32} {v_many : Int32} {u0 : Int32 × Int32 × (Nat → Int32) × (Nat → Int32) × (Nat → Int32)} {k : Int32 → (Nat → Int32) → (Nat → Int32) → (Nat → Int32) → Option (Int32 × Int32 × (Nat → Int32) × (Nat → Int32) × (Nat → Int32))} {n : Nat} {x2 : Int32} {f_row : Nat → Int32} {f_keepers : Nat → Int32} {f_changed : Nat → Int32} {H : Heap} {locs : List Loc} {ls : Array Slot} (C0 : Cx p s m args meth c RX5 cX5_become 4 wsX5_become none g A)
    (hP : va_P g.1 vwCl [(q_this, .inr (5, [.int v_rocks, .int v_many, .ref q_keepers, .ref q_changed, .ref q_row])), (q_row, .inl (g.2.1, 6, .inl f_row)), (q_keepers, .inl (g.2.1, 4320, .inl f_keepers)), (q_changed, .inl (g.2.1, 3600, .inl f_changed))] H) (hD : va_D A [(q_this, .inr (5, [.int v_rocks, .int v_many, .ref q_keepers, .ref q_changed, .ref q_row])), (q_row, .inl (g.2.1, 6, .inl f_row)), (q_keepers, .inl (g.2.1, 4320, .inl f_keepers)), (q_changed, .inl (g.2.1, 3600, .inl f_changed))]) (hS : va_S A s.heap H locs) (hl : lv_has ls 4 [(0, .ref q_this), (2, .int x2)]) (hres : lp_X5_become_L37 v_rocks v_many k n x2 f_row f_keepers f_changed = some u0)
    (K : ∀ (x2 : Int32) (f_row : Nat → Int32) (f_keepers : Nat → Int32) (f_changed : Nat → Int32) (H : Heap) (locs : List Loc) (ls : Array Slot), va_P g.1 vwCl [(q_this, .inr (5, [.int v_rocks, .int v_many, .ref q_keepers, .ref q_changed, .ref q_row])), (q_row, .inl (g.2.1, 6, .inl f_row)), (q_keepers, .inl (g.2.1, 4320, .inl f_keepers)), (q_changed, .inl (g.2.1, 3600, .inl f_changed))] H → va_D A [(q_this, .inr (5, [.int v_rocks, .int v_many, .ref q_keepers, .ref q_changed, .ref q_row])), (q_row, .inl (g.2.1, 6, .inl f_row)), (q_keepers, .inl (g.2.1, 4320, .inl f_keepers)), (q_changed, .inl (g.2.1, 3600, .inl f_changed))] → va_S A s.heap H locs → lv_has ls 4 [(0, .ref q_this), (2, .int x2)] → k x2 f_row f_keepers f_changed = some u0 → W p l e rm_X5_become s m args below meth c H locs 0 0 (MQ below (gQv g [(q_this, .inr (5, [.int u0.1, .int u0.2.1, .ref q_keepers, .ref q_changed, .ref q_row])), (q_row, .inl (g.2.1, 6, .inl u0.2.2.1)), (q_keepers, .inl (g.2.1, 4320, .inl u0.2.2.2.1)), (q_changed, .inl (g.2.1, 3600, .inl u0.2.2.2.2))] A) args s 0 0 A) (F0 m 125 ls [])) :
    W p l e rm_X5_become s m args below meth c H locs 0 0 (MQ below (gQv g [(q_this, .inr (5, [.int u0.1, .int u0.2.1, .ref q_keepers, .ref q_changed, .ref q_row])), (q_row, .inl (g.2.1, 6, .inl u0.2.2.1)), (q_keepers, .inl (g.2.1, 4320, .inl u0.2.2.2.1)), (q_changed, .inl (g.2.1, 3600, .inl u0.2.2.2.2))] A) args s 0 0 A) (F0 m 37 ls []) := by
  obtain ⟨hx, hb, hml, hown, hts, hr, hlk, hN, hK, hF, hA⟩ := id C0
  induction n generalizing x2 f_row f_keepers f_changed H locs ls with
  | zero => cases hres
  | succ n ih =>
    unfold lp_X5_become_L37 at hres
    refine lv_iload_n hx hb dX5_become_37 rfl (lv_at hl 1 rfl) ?_
    refine lv_aload_n hx hb dX5_become_38 rfl (lv_at hl 0 rfl) ?_
    refine va_get (D := g.1) (ci := 5) (v := .int v_many) (C := RX5) (T := TX5) (N := 5) hx hb hts in_X5_become_X5 hown hK hP 0 rfl rfl 1 (by decide) (hts (.fieldLink RX5 9 "LightKeepers$Ways" "many" "I") (List.mem_of_getElem? (i := 2) rfl)) (fun _ h9 => h9) rfl dX5_become_39 ?_
    refine lv_icmp_ge (tgt := 125) hx hb dX5_become_42 (by decide) (fun c5 => ?_) (fun c5 => ?_)
    · have hres := it_t hres c5
      exact K _ _ _ _ _ _ _ hP hD hS hl hres
    · have hres := it_f hres c5
      refine lv_iload_n hx hb dX5_become_45 rfl (lv_at hl 1 rfl) ?_
      refine lv_sipush (v := 720) hx hb dX5_become_46 (by decide) ?_
      refine lv_icmp_ge (tgt := 125) hx hb dX5_become_49 (by decide) (fun c6 => ?_) (fun c6 => ?_)
      · have hres := it_t hres c6
        exact K _ _ _ _ _ _ _ hP hD hS hl hres
      · have hres := it_f hres c6
        refine lv_aload_n hx hb dX5_become_52 rfl (lv_at hl 0 rfl) ?_
        refine lv_iload_n hx hb dX5_become_53 rfl (lv_at hl 1 rfl) ?_
        obtain ⟨u7, hu7, hres⟩ := bd hres
        refine k_v C0 (run_V (As := [.int x2]) (rest := []) C0 (c_X5_fillRow l g (q_this := q_this) (q_keepers := q_keepers) (q_changed := q_changed) (q_row := q_row) (v_rocks := v_rocks) (v_many := v_many) (f_row := f_row) (x1 := x2) (u0 := u7) hu7 _) 1 gX5_become_X5_fillRow rfl rfl rfl hd_X5_fillRow ⟨Nat.le_of_ble_eq_true rfl, Nat.le_of_ble_eq_true rfl⟩ hP hD hS [0, 1] rfl rfl 0 5 rfl rfl rfl hl.1 rfl (Nat.le_of_ble_eq_true rfl) ⟨Nat.zero_le _, Nat.zero_le _⟩ dX5_become_54) hP hD hS [0, 1] [2, 3] rfl rfl rfl (by decide) (fun H locs hP hD hS => ?_)
        have hP : va_P g.1 vwCl [(q_keepers, .inl (g.2.1, 4320, .inl f_keepers)), (q_changed, .inl (g.2.1, 3600, .inl f_changed)), (q_this, .inr (5, [.int v_rocks, .int v_many, .ref q_keepers, .ref q_changed, .ref q_row])), (q_row, .inl (g.2.1, 6, .inl u7))] H := hP
        have hD : va_D A [(q_keepers, .inl (g.2.1, 4320, .inl f_keepers)), (q_changed, .inl (g.2.1, 3600, .inl f_changed)), (q_this, .inr (5, [.int v_rocks, .int v_many, .ref q_keepers, .ref q_changed, .ref q_row])), (q_row, .inl (g.2.1, 6, .inl u7))] := hD
        refine lv_aload_n hx hb dX5_become_57 rfl (lv_at hl 0 rfl) ?_
        refine va_get (D := g.1) (ci := 5) (v := .ref q_row) (C := RX5) (T := TX5) (N := 5) hx hb hts in_X5_become_X5 hown hK hP 2 rfl rfl 4 (by decide) (hts (.fieldLink RX5 22 "LightKeepers$Ways" "row" "[I") (List.mem_of_getElem? (i := 3) rfl)) (fun _ h9 => h9) rfl dX5_become_58 ?_
        refine lv_iconst (v := 0) hx hb dX5_become_61 (by decide) ?_
        refine lv_aload_n hx hb dX5_become_62 rfl (lv_at hl 0 rfl) ?_
        refine va_get (D := g.1) (ci := 5) (v := .ref q_keepers) (C := RX5) (T := TX5) (N := 5) hx hb hts in_X5_become_X5 hown hK hP 2 rfl rfl 2 (by decide) (hts (.fieldLink RX5 15 "LightKeepers$Ways" "keepers" "[I") (List.mem_of_getElem? (i := 4) rfl)) (fun _ h9 => h9) rfl dX5_become_63 ?_
        refine lv_iload_n hx hb dX5_become_66 rfl (lv_at hl 1 rfl) ?_
        refine lv_bipush (v := 6) hx hb dX5_become_67 (by decide) ?_
        refine lv_imul hx hb dX5_become_69 ?_
        refine lv_bipush (v := 6) hx hb dX5_become_70 (by decide) ?_
        have c8 := gd1 hres
        have hres := gd2 hres
        refine va_copyi hx hb (hml.trans hl.1.symm) hown (hts (.methodLink RX5 36 arraycopyName) (List.mem_of_getElem? (i := 5) rfl)) (hts (.native arraycopyName) (List.mem_of_getElem? (i := 6) rfl)) (hts (.static arraycopyName) (List.mem_of_getElem? (i := 7) rfl)) (hts (.initialized "java/lang/System") (List.mem_of_getElem? (i := 8) rfl)) hK hP hD hS 3 0 0 0 rfl rfl rfl rfl rfl (by decide) (fun q => c8 (Or.inl q)) (by decide) (by decide) (Nat.le_of_not_lt (fun q => c8 (Or.inr q))) (fun _ _ => rfl) (Nat.le_of_ble_eq_true rfl) (Nat.le_of_ble_eq_true rfl) dX5_become_72 (fun H locs hP hD hS => ?_)
        have hP : va_P g.1 vwCl [(q_keepers, .inl (g.2.1, 4320, .inl (va_cpy u7 f_keepers (Int32.toNatClampNeg 0) (x2 * 6).toNatClampNeg (Int32.toNatClampNeg 6)))), (q_changed, .inl (g.2.1, 3600, .inl f_changed)), (q_this, .inr (5, [.int v_rocks, .int v_many, .ref q_keepers, .ref q_changed, .ref q_row])), (q_row, .inl (g.2.1, 6, .inl u7))] H := hP
        have hD : va_D A [(q_keepers, .inl (g.2.1, 4320, .inl (va_cpy u7 f_keepers (Int32.toNatClampNeg 0) (x2 * 6).toNatClampNeg (Int32.toNatClampNeg 6)))), (q_changed, .inl (g.2.1, 3600, .inl f_changed)), (q_this, .inr (5, [.int v_rocks, .int v_many, .ref q_keepers, .ref q_changed, .ref q_row])), (q_row, .inl (g.2.1, 6, .inl u7))] := hD
        refine lv_iconst (v := 0) hx hb dX5_become_75 (by decide) ?_
        refine lv_istore_n (lv' := [(3, .int 0), (0, .ref q_this), (2, .int x2)]) hx hb dX5_become_76 rfl hl (by decide) rfl (fun ls hl => ?_)
        have hP : va_P g.1 vwCl [(q_this, .inr (5, [.int v_rocks, .int v_many, .ref q_keepers, .ref q_changed, .ref q_row])), (q_row, .inl (g.2.1, 6, .inl u7)), (q_keepers, .inl (g.2.1, 4320, .inl (va_cpy u7 f_keepers (Int32.toNatClampNeg 0) (x2 * 6).toNatClampNeg (Int32.toNatClampNeg 6)))), (q_changed, .inl (g.2.1, 3600, .inl f_changed))] H := hP.sub [2, 3, 0, 1] rfl
        have hD : va_D A [(q_this, .inr (5, [.int v_rocks, .int v_many, .ref q_keepers, .ref q_changed, .ref q_row])), (q_row, .inl (g.2.1, 6, .inl u7)), (q_keepers, .inl (g.2.1, 4320, .inl (va_cpy u7 f_keepers (Int32.toNatClampNeg 0) (x2 * 6).toNatClampNeg (Int32.toNatClampNeg 6)))), (q_changed, .inl (g.2.1, 3600, .inl f_changed))] := hD.sub [2, 3, 0, 1] (by decide) rfl
        have hl : lv_has ls 4 [(0, .ref q_this), (2, .int x2), (3, .int 0)] := lv_sub hl [1, 2, 0] rfl
        refine w_X5_become_L77 C0 hP hD hS hl hres (fun y14 y15 y16 H locs ls hP hD hS hl hres => ?_)
        refine lv_iinc (v := (x2 + 1)) (lv' := [(2, .int (x2 + 1)), (0, .ref q_this), (3, .int y14)]) hx hb dX5_become_119 hl (k := 1) rfl rfl (by decide) rfl (fun ls hl => ?_)
        refine lv_goto (tgt := 37) hx hb dX5_become_122 (by decide) ?_
        have hl : lv_has ls 4 [(0, .ref q_this), (2, .int (x2 + 1))] := lv_sub hl [1, 0] rfl
        exact ih hP hD hS hl hres
set_option maxHeartbeats 4000000 in
set_option maxRecDepth 100000 in
theorem c_X5_become (l : Launch) (g : gG) {q_this q_keepers q_changed q_row : Nat} {v_rocks : Int32} {v_many : Int32} {f_row : Nat → Int32} {f_keepers : Nat → Int32} {f_changed : Nat → Int32} {x1 : Int32} {u0 : Int32 × Int32 × (Nat → Int32) × (Nat → Int32) × (Nat → Int32)} (hres : f_X5_become v_rocks v_many f_row f_keepers f_changed x1 = some u0) : Cv l g yX5_become wsX5_become rm_X5_become [.ref q_this, .int x1] [(q_this, .inr (5, [.int v_rocks, .int v_many, .ref q_keepers, .ref q_changed, .ref q_row])), (q_row, .inl (g.2.1, 6, .inl f_row)), (q_keepers, .inl (g.2.1, 4320, .inl f_keepers)), (q_changed, .inl (g.2.1, 3600, .inl f_changed))] [(q_this, .inr (5, [.int u0.1, .int u0.2.1, .ref q_keepers, .ref q_changed, .ref q_row])), (q_row, .inl (g.2.1, 6, .inl u0.2.2.1)), (q_keepers, .inl (g.2.1, 4320, .inl u0.2.2.2.1)), (q_changed, .inl (g.2.1, 3600, .inl u0.2.2.2.2))] := by
  intro sz
  refine gBody (Qf := fun A => gQv g [(q_this, .inr (5, [.int u0.1, .int u0.2.1, .ref q_keepers, .ref q_changed, .ref q_row])), (q_row, .inl (g.2.1, 6, .inl u0.2.2.1)), (q_keepers, .inl (g.2.1, 4320, .inl u0.2.2.2.1)), (q_changed, .inl (g.2.1, 3600, .inl u0.2.2.2.2))] A) (cc := cX5_become) (maxL := 4) (ret := none) (own := RX5) (by decide +kernel) rfl rfl (Nat.le_of_ble_eq_true rfl) ?_
  intro p e s m args below meth c A C0 H hS hD hP ls hl
  obtain ⟨hx, hb, hml, hown, hts, hr, hlk, hN, hK, hF, hA⟩ := id C0
  have hl : lv_has ls 4 [(0, .ref q_this), (1, .int x1)] := hl
  unfold f_X5_become at hres
  refine lv_iload_n hx hb dX5_become_0 rfl (lv_at hl 1 rfl) ?_
  refine lv_aload_n hx hb dX5_become_1 rfl (lv_at hl 0 rfl) ?_
  refine va_get (D := g.1) (ci := 5) (v := .int v_rocks) (C := RX5) (T := TX5) (N := 5) hx hb hts in_X5_become_X5 hown hK hP 0 rfl rfl 0 (by decide) (hts (.fieldLink RX5 25 "LightKeepers$Ways" "rocks" "I") (List.mem_of_getElem? (i := 1) rfl)) (fun _ h9 => h9) rfl dX5_become_2 ?_
  refine lv_icmp_eq (tgt := 18) hx hb dX5_become_5 (by decide) (fun c1 => ?_) (fun c1 => ?_)
  · have hres := it_t hres c1
    cases hres
    exact ret_v C0 hP hD hS dX5_become_18
  · have hres := it_f hres c1
    refine lv_iload_n hx hb dX5_become_8 rfl (lv_at hl 1 rfl) ?_
    refine lv_if_lt (tgt := 18) hx hb dX5_become_9 (by decide) (fun c2 => ?_) (fun c2 => ?_)
    · have hres := it_t hres c2
      cases hres
      exact ret_v C0 hP hD hS dX5_become_18
    · have hres := it_f hres c2
      refine lv_iload_n hx hb dX5_become_12 rfl (lv_at hl 1 rfl) ?_
      refine lv_bipush (v := 6) hx hb dX5_become_13 (by decide) ?_
      refine lv_icmp_le (tgt := 19) hx hb dX5_become_15 (by decide) (fun c3 => ?_) (fun c3 => ?_)
      · have hres := it_t hres c3
        refine lv_aload_n hx hb dX5_become_19 rfl (lv_at hl 0 rfl) ?_
        refine lv_iload_n hx hb dX5_become_20 rfl (lv_at hl 1 rfl) ?_
        refine va_put (D := g.1) (ci := 5) (v := .int x1) (ty := .int) (C := RX5) (T := TX5) (N := 5) hx hb hts in_X5_become_X5 tyX5 tyX5_ok nmX5 hown hK hP hD hS 0 rfl rfl 0 (by decide) (hts (.fieldLink RX5 25 "LightKeepers$Ways" "rocks" "I") (List.mem_of_getElem? (i := 1) rfl)) (fun _ h9 => h9) rfl (tyX5_ok 0 (by decide)) rfl rfl (Nat.le_of_ble_eq_true rfl) dX5_become_21 (fun H locs hP hD hS => ?_)
        have hP : va_P g.1 vwCl [(q_this, .inr (5, [.int x1, .int v_many, .ref q_keepers, .ref q_changed, .ref q_row])), (q_row, .inl (g.2.1, 6, .inl f_row)), (q_keepers, .inl (g.2.1, 4320, .inl f_keepers)), (q_changed, .inl (g.2.1, 3600, .inl f_changed))] H := hP
        have hD : va_D A [(q_this, .inr (5, [.int x1, .int v_many, .ref q_keepers, .ref q_changed, .ref q_row])), (q_row, .inl (g.2.1, 6, .inl f_row)), (q_keepers, .inl (g.2.1, 4320, .inl f_keepers)), (q_changed, .inl (g.2.1, 3600, .inl f_changed))] := hD
        refine lv_aload_n hx hb dX5_become_24 rfl (lv_at hl 0 rfl) ?_
        refine lv_aload_n hx hb dX5_become_25 rfl (lv_at hl 0 rfl) ?_
        refine va_get (D := g.1) (ci := 5) (v := .int x1) (C := RX5) (T := TX5) (N := 5) hx hb hts in_X5_become_X5 hown hK hP 0 rfl rfl 0 (by decide) (hts (.fieldLink RX5 25 "LightKeepers$Ways" "rocks" "I") (List.mem_of_getElem? (i := 1) rfl)) (fun _ h9 => h9) rfl dX5_become_26 ?_
        obtain ⟨u4, hu4, hres⟩ := bd hres
        refine k_i C0 (run_S (As := [.int x1]) (rest := [.ref q_this]) C0 (c_X5_factorial l g (x0 := x1) (u0 := u4) hu4 _) 1 gX5_become_X5_factorial rfl rfl rfl hd_X5_factorial ⟨Nat.le_of_ble_eq_true rfl, Nat.le_of_ble_eq_true rfl⟩ hP hD hS [] rfl rfl rfl hl.1 rfl (Nat.le_of_ble_eq_true rfl) ⟨Nat.zero_le _, Nat.zero_le _⟩ dX5_become_29) hP hD hS [] [0, 1, 2, 3] rfl rfl rfl (by decide) (fun H locs hP hD hS => ?_)
        have hP : va_P g.1 vwCl [(q_this, .inr (5, [.int x1, .int v_many, .ref q_keepers, .ref q_changed, .ref q_row])), (q_row, .inl (g.2.1, 6, .inl f_row)), (q_keepers, .inl (g.2.1, 4320, .inl f_keepers)), (q_changed, .inl (g.2.1, 3600, .inl f_changed))] H := hP
        have hD : va_D A [(q_this, .inr (5, [.int x1, .int v_many, .ref q_keepers, .ref q_changed, .ref q_row])), (q_row, .inl (g.2.1, 6, .inl f_row)), (q_keepers, .inl (g.2.1, 4320, .inl f_keepers)), (q_changed, .inl (g.2.1, 3600, .inl f_changed))] := hD
        refine va_put (D := g.1) (ci := 5) (v := .int u4) (ty := .int) (C := RX5) (T := TX5) (N := 5) hx hb hts in_X5_become_X5 tyX5 tyX5_ok nmX5 hown hK hP hD hS 0 rfl rfl 1 (by decide) (hts (.fieldLink RX5 9 "LightKeepers$Ways" "many" "I") (List.mem_of_getElem? (i := 2) rfl)) (fun _ h9 => h9) rfl (tyX5_ok 1 (by decide)) rfl rfl (Nat.le_of_ble_eq_true rfl) dX5_become_32 (fun H locs hP hD hS => ?_)
        have hP : va_P g.1 vwCl [(q_this, .inr (5, [.int x1, .int u4, .ref q_keepers, .ref q_changed, .ref q_row])), (q_row, .inl (g.2.1, 6, .inl f_row)), (q_keepers, .inl (g.2.1, 4320, .inl f_keepers)), (q_changed, .inl (g.2.1, 3600, .inl f_changed))] H := hP
        have hD : va_D A [(q_this, .inr (5, [.int x1, .int u4, .ref q_keepers, .ref q_changed, .ref q_row])), (q_row, .inl (g.2.1, 6, .inl f_row)), (q_keepers, .inl (g.2.1, 4320, .inl f_keepers)), (q_changed, .inl (g.2.1, 3600, .inl f_changed))] := hD
        refine lv_iconst (v := 0) hx hb dX5_become_35 (by decide) ?_
        refine lv_istore_n (lv' := [(2, .int 0), (0, .ref q_this), (1, .int x1)]) hx hb dX5_become_36 rfl hl (by decide) rfl (fun ls hl => ?_)
        have hl : lv_has ls 4 [(0, .ref q_this), (2, .int 0)] := lv_sub hl [1, 0] rfl
        refine w_X5_become_L37 C0 hP hD hS hl hres (fun y17 y18 y19 y20 H locs ls hP hD hS hl hres => ?_)
        cases hres
        exact ret_v C0 hP hD hS dX5_become_125
      · have hres := it_f hres c3
        cases hres
        exact ret_v C0 hP hD hS dX5_become_18
set_option maxHeartbeats 4000000 in
set_option maxRecDepth 100000 in
theorem c_X3_become (l : Launch) (g : gG) {q_this q_told q_ways q_a1 q_a1_flashes q_a1_haters q_told_flashes q_told_haters q_ways_keepers q_ways_changed q_ways_row : Nat} {v_a1_keepers : Int32} {v_a1_hates : Int32} {v_a1_sight : Int32} {v_a1_sightTold : Int32} {v_told_keepers : Int32} {v_told_hates : Int32} {v_told_sight : Int32} {v_told_sightTold : Int32} {f_a1_flashes : Nat → Int32} {f_told_flashes : Nat → Int32} {f_a1_haters : Nat → Int32} {f_told_haters : Nat → Int32} {v_ways_rocks : Int32} {v_ways_many : Int32} {f_ways_row : Nat → Int32} {f_ways_keepers : Nat → Int32} {f_ways_changed : Nat → Int32} {u0 : Int32 × Int32 × Int32 × (Nat → Int32) × (Nat → Int32) × Int32 × Int32 × (Nat → Int32) × (Nat → Int32) × (Nat → Int32)} (hres : f_X3_become v_a1_keepers v_a1_hates v_a1_sight f_a1_flashes f_told_flashes f_a1_haters f_told_haters v_ways_rocks v_ways_many f_ways_row f_ways_keepers f_ways_changed = some u0) : Cv l g yX3_become wsX3_become rm_X3_become [.ref q_this, .ref q_a1] [(q_this, .inr (3, [.ref q_told, .ref q_ways])), (q_a1, .inr (4, [.int v_a1_keepers, .int v_a1_hates, .int v_a1_sight, .int v_a1_sightTold, .ref q_a1_flashes, .ref q_a1_haters])), (q_told, .inr (4, [.int v_told_keepers, .int v_told_hates, .int v_told_sight, .int v_told_sightTold, .ref q_told_flashes, .ref q_told_haters])), (q_a1_flashes, .inl (g.2.1, 6, .inl f_a1_flashes)), (q_told_flashes, .inl (g.2.1, 6, .inl f_told_flashes)), (q_a1_haters, .inl (g.2.1, 6, .inl f_a1_haters)), (q_told_haters, .inl (g.2.1, 6, .inl f_told_haters)), (q_ways, .inr (5, [.int v_ways_rocks, .int v_ways_many, .ref q_ways_keepers, .ref q_ways_changed, .ref q_ways_row])), (q_ways_row, .inl (g.2.1, 6, .inl f_ways_row)), (q_ways_keepers, .inl (g.2.1, 4320, .inl f_ways_keepers)), (q_ways_changed, .inl (g.2.1, 3600, .inl f_ways_changed))] [(q_this, .inr (3, [.ref q_told, .ref q_ways])), (q_a1, .inr (4, [.int v_a1_keepers, .int v_a1_hates, .int v_a1_sight, .int v_a1_sightTold, .ref q_a1_flashes, .ref q_a1_haters])), (q_told, .inr (4, [.int u0.1, .int u0.2.1, .int u0.2.2.1, .int v_told_sightTold, .ref q_told_flashes, .ref q_told_haters])), (q_a1_flashes, .inl (g.2.1, 6, .inl f_a1_flashes)), (q_told_flashes, .inl (g.2.1, 6, .inl u0.2.2.2.1)), (q_a1_haters, .inl (g.2.1, 6, .inl f_a1_haters)), (q_told_haters, .inl (g.2.1, 6, .inl u0.2.2.2.2.1)), (q_ways, .inr (5, [.int u0.2.2.2.2.2.1, .int u0.2.2.2.2.2.2.1, .ref q_ways_keepers, .ref q_ways_changed, .ref q_ways_row])), (q_ways_row, .inl (g.2.1, 6, .inl u0.2.2.2.2.2.2.2.1)), (q_ways_keepers, .inl (g.2.1, 4320, .inl u0.2.2.2.2.2.2.2.2.1)), (q_ways_changed, .inl (g.2.1, 3600, .inl u0.2.2.2.2.2.2.2.2.2))] := by
  intro sz
  refine gBody (Qf := fun A => gQv g [(q_this, .inr (3, [.ref q_told, .ref q_ways])), (q_a1, .inr (4, [.int v_a1_keepers, .int v_a1_hates, .int v_a1_sight, .int v_a1_sightTold, .ref q_a1_flashes, .ref q_a1_haters])), (q_told, .inr (4, [.int u0.1, .int u0.2.1, .int u0.2.2.1, .int v_told_sightTold, .ref q_told_flashes, .ref q_told_haters])), (q_a1_flashes, .inl (g.2.1, 6, .inl f_a1_flashes)), (q_told_flashes, .inl (g.2.1, 6, .inl u0.2.2.2.1)), (q_a1_haters, .inl (g.2.1, 6, .inl f_a1_haters)), (q_told_haters, .inl (g.2.1, 6, .inl u0.2.2.2.2.1)), (q_ways, .inr (5, [.int u0.2.2.2.2.2.1, .int u0.2.2.2.2.2.2.1, .ref q_ways_keepers, .ref q_ways_changed, .ref q_ways_row])), (q_ways_row, .inl (g.2.1, 6, .inl u0.2.2.2.2.2.2.2.1)), (q_ways_keepers, .inl (g.2.1, 4320, .inl u0.2.2.2.2.2.2.2.2.1)), (q_ways_changed, .inl (g.2.1, 3600, .inl u0.2.2.2.2.2.2.2.2.2))] A) (cc := cX3_become) (maxL := 2) (ret := none) (own := RX3) (by decide +kernel) rfl rfl (Nat.le_of_ble_eq_true rfl) ?_
  intro p e s m args below meth c A C0 H hS hD hP ls hl
  obtain ⟨hx, hb, hml, hown, hts, hr, hlk, hN, hK, hF, hA⟩ := id C0
  have hl : lv_has ls 2 [(0, .ref q_this), (1, .ref q_a1)] := hl
  unfold f_X3_become at hres
  refine lv_aload_n hx hb dX3_become_0 rfl (lv_at hl 0 rfl) ?_
  refine va_get (D := g.1) (ci := 3) (v := .ref q_told) (C := RX3) (T := TX3) (N := 2) hx hb hts in_X3_become_X3 hown hK hP 0 rfl rfl 0 (by decide) (hts (.fieldLink RX3 12 "LightKeepers$Shore" "told" "LLightKeepers$Told;") (List.mem_of_getElem? (i := 1) rfl)) (fun _ h9 => h9) rfl dX3_become_1 ?_
  refine lv_aload_n hx hb dX3_become_4 rfl (lv_at hl 1 rfl) ?_
  obtain ⟨u1, hu1, hres⟩ := bd hres
  refine k_v C0 (run_V (As := [.ref q_a1]) (rest := []) C0 (c_X4_become l g (q_this := q_told) (q_flashes := q_told_flashes) (q_haters := q_told_haters) (q_a1 := q_a1) (q_a1_flashes := q_a1_flashes) (q_a1_haters := q_a1_haters) (v_keepers := v_told_keepers) (v_hates := v_told_hates) (v_sight := v_told_sight) (v_sightTold := v_told_sightTold) (v_a1_keepers := v_a1_keepers) (v_a1_hates := v_a1_hates) (v_a1_sight := v_a1_sight) (v_a1_sightTold := v_a1_sightTold) (f_a1_flashes := f_a1_flashes) (f_flashes := f_told_flashes) (f_a1_haters := f_a1_haters) (f_haters := f_told_haters) (u0 := u1) hu1 _) 1 gX3_become_X4_become rfl rfl rfl hd_X4_become ⟨Nat.le_of_ble_eq_true rfl, Nat.le_of_ble_eq_true rfl⟩ hP hD hS [2, 1, 3, 4, 5, 6] rfl rfl 2 4 rfl rfl rfl hl.1 rfl (Nat.le_of_ble_eq_true rfl) ⟨Nat.zero_le _, Nat.zero_le _⟩ dX3_become_5) hP hD hS [2, 1, 3, 4, 5, 6] [0, 7, 8, 9, 10] rfl rfl rfl (by decide) (fun H locs hP hD hS => ?_)
  have hP : va_P g.1 vwCl [(q_this, .inr (3, [.ref q_told, .ref q_ways])), (q_ways, .inr (5, [.int v_ways_rocks, .int v_ways_many, .ref q_ways_keepers, .ref q_ways_changed, .ref q_ways_row])), (q_ways_row, .inl (g.2.1, 6, .inl f_ways_row)), (q_ways_keepers, .inl (g.2.1, 4320, .inl f_ways_keepers)), (q_ways_changed, .inl (g.2.1, 3600, .inl f_ways_changed)), (q_told, .inr (4, [.int u1.1, .int u1.2.1, .int u1.2.2.1, .int v_told_sightTold, .ref q_told_flashes, .ref q_told_haters])), (q_a1, .inr (4, [.int v_a1_keepers, .int v_a1_hates, .int v_a1_sight, .int v_a1_sightTold, .ref q_a1_flashes, .ref q_a1_haters])), (q_a1_flashes, .inl (g.2.1, 6, .inl f_a1_flashes)), (q_told_flashes, .inl (g.2.1, 6, .inl u1.2.2.2.1)), (q_a1_haters, .inl (g.2.1, 6, .inl f_a1_haters)), (q_told_haters, .inl (g.2.1, 6, .inl u1.2.2.2.2))] H := hP
  have hD : va_D A [(q_this, .inr (3, [.ref q_told, .ref q_ways])), (q_ways, .inr (5, [.int v_ways_rocks, .int v_ways_many, .ref q_ways_keepers, .ref q_ways_changed, .ref q_ways_row])), (q_ways_row, .inl (g.2.1, 6, .inl f_ways_row)), (q_ways_keepers, .inl (g.2.1, 4320, .inl f_ways_keepers)), (q_ways_changed, .inl (g.2.1, 3600, .inl f_ways_changed)), (q_told, .inr (4, [.int u1.1, .int u1.2.1, .int u1.2.2.1, .int v_told_sightTold, .ref q_told_flashes, .ref q_told_haters])), (q_a1, .inr (4, [.int v_a1_keepers, .int v_a1_hates, .int v_a1_sight, .int v_a1_sightTold, .ref q_a1_flashes, .ref q_a1_haters])), (q_a1_flashes, .inl (g.2.1, 6, .inl f_a1_flashes)), (q_told_flashes, .inl (g.2.1, 6, .inl u1.2.2.2.1)), (q_a1_haters, .inl (g.2.1, 6, .inl f_a1_haters)), (q_told_haters, .inl (g.2.1, 6, .inl u1.2.2.2.2))] := hD
  refine lv_aload_n hx hb dX3_become_8 rfl (lv_at hl 0 rfl) ?_
  refine va_get (D := g.1) (ci := 3) (v := .ref q_ways) (C := RX3) (T := TX3) (N := 2) hx hb hts in_X3_become_X3 hown hK hP 0 rfl rfl 1 (by decide) (hts (.fieldLink RX3 21 "LightKeepers$Shore" "ways" "LLightKeepers$Ways;") (List.mem_of_getElem? (i := 2) rfl)) (fun _ h9 => h9) rfl dX3_become_9 ?_
  refine lv_aload_n hx hb dX3_become_12 rfl (lv_at hl 0 rfl) ?_
  refine va_get (D := g.1) (ci := 3) (v := .ref q_told) (C := RX3) (T := TX3) (N := 2) hx hb hts in_X3_become_X3 hown hK hP 0 rfl rfl 0 (by decide) (hts (.fieldLink RX3 12 "LightKeepers$Shore" "told" "LLightKeepers$Told;") (List.mem_of_getElem? (i := 1) rfl)) (fun _ h9 => h9) rfl dX3_become_13 ?_
  refine va_get (D := g.1) (ci := 4) (v := .int u1.1) (C := RX4) (T := TX4) (N := 6) hx hb hts in_X3_become_X4 hown hK hP 5 rfl rfl 0 (by decide) (hts (.fieldLink RX3 29 "LightKeepers$Told" "keepers" "I") (List.mem_of_getElem? (i := 3) rfl)) (fun _ h9 => h9) rfl dX3_become_16 ?_
  obtain ⟨u2, hu2, hres⟩ := bd hres
  refine k_v C0 (run_V (As := [.int u1.1]) (rest := []) C0 (c_X5_become l g (q_this := q_ways) (q_keepers := q_ways_keepers) (q_changed := q_ways_changed) (q_row := q_ways_row) (v_rocks := v_ways_rocks) (v_many := v_ways_many) (f_row := f_ways_row) (f_keepers := f_ways_keepers) (f_changed := f_ways_changed) (x1 := u1.1) (u0 := u2) hu2 _) 1 gX3_become_X5_become rfl rfl rfl hd_X5_become ⟨Nat.le_of_ble_eq_true rfl, Nat.le_of_ble_eq_true rfl⟩ hP hD hS [1, 2, 3, 4] rfl rfl 1 5 rfl rfl rfl hl.1 rfl (Nat.le_of_ble_eq_true rfl) ⟨Nat.zero_le _, Nat.zero_le _⟩ dX3_become_19) hP hD hS [1, 2, 3, 4] [0, 5, 6, 7, 8, 9, 10] rfl rfl rfl (by decide) (fun H locs hP hD hS => ?_)
  have hP : va_P g.1 vwCl [(q_this, .inr (3, [.ref q_told, .ref q_ways])), (q_told, .inr (4, [.int u1.1, .int u1.2.1, .int u1.2.2.1, .int v_told_sightTold, .ref q_told_flashes, .ref q_told_haters])), (q_a1, .inr (4, [.int v_a1_keepers, .int v_a1_hates, .int v_a1_sight, .int v_a1_sightTold, .ref q_a1_flashes, .ref q_a1_haters])), (q_a1_flashes, .inl (g.2.1, 6, .inl f_a1_flashes)), (q_told_flashes, .inl (g.2.1, 6, .inl u1.2.2.2.1)), (q_a1_haters, .inl (g.2.1, 6, .inl f_a1_haters)), (q_told_haters, .inl (g.2.1, 6, .inl u1.2.2.2.2)), (q_ways, .inr (5, [.int u2.1, .int u2.2.1, .ref q_ways_keepers, .ref q_ways_changed, .ref q_ways_row])), (q_ways_row, .inl (g.2.1, 6, .inl u2.2.2.1)), (q_ways_keepers, .inl (g.2.1, 4320, .inl u2.2.2.2.1)), (q_ways_changed, .inl (g.2.1, 3600, .inl u2.2.2.2.2))] H := hP
  have hD : va_D A [(q_this, .inr (3, [.ref q_told, .ref q_ways])), (q_told, .inr (4, [.int u1.1, .int u1.2.1, .int u1.2.2.1, .int v_told_sightTold, .ref q_told_flashes, .ref q_told_haters])), (q_a1, .inr (4, [.int v_a1_keepers, .int v_a1_hates, .int v_a1_sight, .int v_a1_sightTold, .ref q_a1_flashes, .ref q_a1_haters])), (q_a1_flashes, .inl (g.2.1, 6, .inl f_a1_flashes)), (q_told_flashes, .inl (g.2.1, 6, .inl u1.2.2.2.1)), (q_a1_haters, .inl (g.2.1, 6, .inl f_a1_haters)), (q_told_haters, .inl (g.2.1, 6, .inl u1.2.2.2.2)), (q_ways, .inr (5, [.int u2.1, .int u2.2.1, .ref q_ways_keepers, .ref q_ways_changed, .ref q_ways_row])), (q_ways_row, .inl (g.2.1, 6, .inl u2.2.2.1)), (q_ways_keepers, .inl (g.2.1, 4320, .inl u2.2.2.2.1)), (q_ways_changed, .inl (g.2.1, 3600, .inl u2.2.2.2.2))] := hD
  have hP : va_P g.1 vwCl [(q_this, .inr (3, [.ref q_told, .ref q_ways])), (q_a1, .inr (4, [.int v_a1_keepers, .int v_a1_hates, .int v_a1_sight, .int v_a1_sightTold, .ref q_a1_flashes, .ref q_a1_haters])), (q_told, .inr (4, [.int u1.1, .int u1.2.1, .int u1.2.2.1, .int v_told_sightTold, .ref q_told_flashes, .ref q_told_haters])), (q_a1_flashes, .inl (g.2.1, 6, .inl f_a1_flashes)), (q_told_flashes, .inl (g.2.1, 6, .inl u1.2.2.2.1)), (q_a1_haters, .inl (g.2.1, 6, .inl f_a1_haters)), (q_told_haters, .inl (g.2.1, 6, .inl u1.2.2.2.2)), (q_ways, .inr (5, [.int u2.1, .int u2.2.1, .ref q_ways_keepers, .ref q_ways_changed, .ref q_ways_row])), (q_ways_row, .inl (g.2.1, 6, .inl u2.2.2.1)), (q_ways_keepers, .inl (g.2.1, 4320, .inl u2.2.2.2.1)), (q_ways_changed, .inl (g.2.1, 3600, .inl u2.2.2.2.2))] H := hP.sub [0, 2, 1, 3, 4, 5, 6, 7, 8, 9, 10] rfl
  have hD : va_D A [(q_this, .inr (3, [.ref q_told, .ref q_ways])), (q_a1, .inr (4, [.int v_a1_keepers, .int v_a1_hates, .int v_a1_sight, .int v_a1_sightTold, .ref q_a1_flashes, .ref q_a1_haters])), (q_told, .inr (4, [.int u1.1, .int u1.2.1, .int u1.2.2.1, .int v_told_sightTold, .ref q_told_flashes, .ref q_told_haters])), (q_a1_flashes, .inl (g.2.1, 6, .inl f_a1_flashes)), (q_told_flashes, .inl (g.2.1, 6, .inl u1.2.2.2.1)), (q_a1_haters, .inl (g.2.1, 6, .inl f_a1_haters)), (q_told_haters, .inl (g.2.1, 6, .inl u1.2.2.2.2)), (q_ways, .inr (5, [.int u2.1, .int u2.2.1, .ref q_ways_keepers, .ref q_ways_changed, .ref q_ways_row])), (q_ways_row, .inl (g.2.1, 6, .inl u2.2.2.1)), (q_ways_keepers, .inl (g.2.1, 4320, .inl u2.2.2.2.1)), (q_ways_changed, .inl (g.2.1, 3600, .inl u2.2.2.2.2))] := hD.sub [0, 2, 1, 3, 4, 5, 6, 7, 8, 9, 10] (by decide) rfl
  cases hres
  exact ret_v C0 hP hD hS dX3_become_22
set_option maxHeartbeats 4000000 in
set_option maxRecDepth 100000 in
theorem w_X3_calmest_L18 {p : Program} {l : Launch} {e : Env} {s : State} {m : MethodId} {args : Array Value} {below : List Frame} {meth : Method} {c : Code} {g : gG} {A : Nat → Prop} {q_this q_told q_ways q_told_flashes q_told_haters q_ways_keepers q_ways_changed q_ways_row : Nat} {v_told_keepers : Int32} {v_told_hates : Int32} {v_told_sight : Int32} {v_told_sightTold : Int32} {v_ways_rocks : Int32} {v_ways_many : Int32} {f_ways_keepers : Nat → Int32} {f_told_haters : Nat → Int32} {f_told_flashes : Nat → Int32} {f_ways_changed : Nat → Int32} {x1 : Int32} {x2 : Int32} {u0 : Int32} {k : Int32 → Int32 → Int32 → Option (Int32)} {n : Nat} {x3 : Int32} {x4 : Int32} {x5 : Int32} {H : Heap} {locs : List Loc} {ls : Array Slot} (C0 : Cx p s m args meth c RX3 cX3_calmest 8 wsX3_calmest (some .int) g A)
    (hP : va_P g.1 vwCl [(q_this, .inr (3, [.ref q_told, .ref q_ways])), (q_told, .inr (4, [.int v_told_keepers, .int v_told_hates, .int v_told_sight, .int v_told_sightTold, .ref q_told_flashes, .ref q_told_haters])), (q_ways, .inr (5, [.int v_ways_rocks, .int v_ways_many, .ref q_ways_keepers, .ref q_ways_changed, .ref q_ways_row])), (q_ways_keepers, .inl (g.2.1, 4320, .inl f_ways_keepers)), (q_told_haters, .inl (g.2.1, 6, .inl f_told_haters)), (q_told_flashes, .inl (g.2.1, 6, .inl f_told_flashes)), (q_ways_changed, .inl (g.2.1, 3600, .inl f_ways_changed))] H) (hD : va_D A [(q_this, .inr (3, [.ref q_told, .ref q_ways])), (q_told, .inr (4, [.int v_told_keepers, .int v_told_hates, .int v_told_sight, .int v_told_sightTold, .ref q_told_flashes, .ref q_told_haters])), (q_ways, .inr (5, [.int v_ways_rocks, .int v_ways_many, .ref q_ways_keepers, .ref q_ways_changed, .ref q_ways_row])), (q_ways_keepers, .inl (g.2.1, 4320, .inl f_ways_keepers)), (q_told_haters, .inl (g.2.1, 6, .inl f_told_haters)), (q_told_flashes, .inl (g.2.1, 6, .inl f_told_flashes)), (q_ways_changed, .inl (g.2.1, 3600, .inl f_ways_changed))]) (hS : va_S A s.heap H locs) (hl : lv_has ls 8 [(0, .ref q_this), (1, .int x1), (2, .int x2), (3, .int x3), (4, .int x4), (5, .int x5)]) (hres : lp_X3_calmest_L18 v_told_keepers v_told_sight f_ways_keepers f_told_flashes f_ways_changed x1 x2 k n x3 x4 x5 = some u0)
    (K : ∀ (x3 : Int32) (x4 : Int32) (x5 : Int32) (H : Heap) (locs : List Loc) (ls : Array Slot), va_P g.1 vwCl [(q_this, .inr (3, [.ref q_told, .ref q_ways])), (q_told, .inr (4, [.int v_told_keepers, .int v_told_hates, .int v_told_sight, .int v_told_sightTold, .ref q_told_flashes, .ref q_told_haters])), (q_ways, .inr (5, [.int v_ways_rocks, .int v_ways_many, .ref q_ways_keepers, .ref q_ways_changed, .ref q_ways_row])), (q_ways_keepers, .inl (g.2.1, 4320, .inl f_ways_keepers)), (q_told_haters, .inl (g.2.1, 6, .inl f_told_haters)), (q_told_flashes, .inl (g.2.1, 6, .inl f_told_flashes)), (q_ways_changed, .inl (g.2.1, 3600, .inl f_ways_changed))] H → va_D A [(q_this, .inr (3, [.ref q_told, .ref q_ways])), (q_told, .inr (4, [.int v_told_keepers, .int v_told_hates, .int v_told_sight, .int v_told_sightTold, .ref q_told_flashes, .ref q_told_haters])), (q_ways, .inr (5, [.int v_ways_rocks, .int v_ways_many, .ref q_ways_keepers, .ref q_ways_changed, .ref q_ways_row])), (q_ways_keepers, .inl (g.2.1, 4320, .inl f_ways_keepers)), (q_told_haters, .inl (g.2.1, 6, .inl f_told_haters)), (q_told_flashes, .inl (g.2.1, 6, .inl f_told_flashes)), (q_ways_changed, .inl (g.2.1, 3600, .inl f_ways_changed))] → va_S A s.heap H locs → lv_has ls 8 [(0, .ref q_this), (1, .int x1), (2, .int x2), (3, .int x3), (4, .int x4), (5, .int x5)] → k x3 x4 x5 = some u0 → W p l e rm_X3_calmest s m args below meth c H locs 0 0 (MQ below (gQi g [(q_this, .inr (3, [.ref q_told, .ref q_ways])), (q_told, .inr (4, [.int v_told_keepers, .int v_told_hates, .int v_told_sight, .int v_told_sightTold, .ref q_told_flashes, .ref q_told_haters])), (q_ways, .inr (5, [.int v_ways_rocks, .int v_ways_many, .ref q_ways_keepers, .ref q_ways_changed, .ref q_ways_row])), (q_ways_keepers, .inl (g.2.1, 4320, .inl f_ways_keepers)), (q_told_haters, .inl (g.2.1, 6, .inl f_told_haters)), (q_told_flashes, .inl (g.2.1, 6, .inl f_told_flashes)), (q_ways_changed, .inl (g.2.1, 3600, .inl f_ways_changed))] u0 A) args s 0 0 A) (F0 m 100 ls [])) :
    W p l e rm_X3_calmest s m args below meth c H locs 0 0 (MQ below (gQi g [(q_this, .inr (3, [.ref q_told, .ref q_ways])), (q_told, .inr (4, [.int v_told_keepers, .int v_told_hates, .int v_told_sight, .int v_told_sightTold, .ref q_told_flashes, .ref q_told_haters])), (q_ways, .inr (5, [.int v_ways_rocks, .int v_ways_many, .ref q_ways_keepers, .ref q_ways_changed, .ref q_ways_row])), (q_ways_keepers, .inl (g.2.1, 4320, .inl f_ways_keepers)), (q_told_haters, .inl (g.2.1, 6, .inl f_told_haters)), (q_told_flashes, .inl (g.2.1, 6, .inl f_told_flashes)), (q_ways_changed, .inl (g.2.1, 3600, .inl f_ways_changed))] u0 A) args s 0 0 A) (F0 m 18 ls []) := by
  obtain ⟨hx, hb, hml, hown, hts, hr, hlk, hN, hK, hF, hA⟩ := id C0
  induction n generalizing x3 x4 x5 H locs ls with
  | zero => cases hres
  | succ n ih =>
    unfold lp_X3_calmest_L18 at hres
    refine lv_iload hx hb dX3_calmest_18 (lv_at hl 5 rfl) ?_
    refine lv_aload_n hx hb dX3_calmest_20 rfl (lv_at hl 0 rfl) ?_
    obtain ⟨u3, hu3, hres⟩ := bd hres
    refine k_i C0 (run_V (As := []) (rest := [.int x5]) C0 (c_X3_changes l g (q_this := q_this) (q_told := q_told) (q_ways := q_ways) (q_told_flashes := q_told_flashes) (q_told_haters := q_told_haters) (v_told_keepers := v_told_keepers) (v_told_hates := v_told_hates) (v_told_sight := v_told_sight) (v_told_sightTold := v_told_sightTold) (u0 := u3) hu3 _) 0 gX3_calmest_X3_changes rfl rfl rfl hd_X3_changes ⟨Nat.le_of_ble_eq_true rfl, Nat.le_of_ble_eq_true rfl⟩ hP hD hS [0, 1] rfl rfl 0 3 rfl rfl rfl hl.1 rfl (Nat.le_of_ble_eq_true rfl) ⟨Nat.zero_le _, Nat.zero_le _⟩ dX3_calmest_21) hP hD hS [0, 1] [2, 3, 4, 5, 6] rfl rfl rfl (by decide) (fun H locs hP hD hS => ?_)
    have hP : va_P g.1 vwCl [(q_ways, .inr (5, [.int v_ways_rocks, .int v_ways_many, .ref q_ways_keepers, .ref q_ways_changed, .ref q_ways_row])), (q_ways_keepers, .inl (g.2.1, 4320, .inl f_ways_keepers)), (q_told_haters, .inl (g.2.1, 6, .inl f_told_haters)), (q_told_flashes, .inl (g.2.1, 6, .inl f_told_flashes)), (q_ways_changed, .inl (g.2.1, 3600, .inl f_ways_changed)), (q_this, .inr (3, [.ref q_told, .ref q_ways])), (q_told, .inr (4, [.int v_told_keepers, .int v_told_hates, .int v_told_sight, .int v_told_sightTold, .ref q_told_flashes, .ref q_told_haters]))] H := hP
    have hD : va_D A [(q_ways, .inr (5, [.int v_ways_rocks, .int v_ways_many, .ref q_ways_keepers, .ref q_ways_changed, .ref q_ways_row])), (q_ways_keepers, .inl (g.2.1, 4320, .inl f_ways_keepers)), (q_told_haters, .inl (g.2.1, 6, .inl f_told_haters)), (q_told_flashes, .inl (g.2.1, 6, .inl f_told_flashes)), (q_ways_changed, .inl (g.2.1, 3600, .inl f_ways_changed)), (q_this, .inr (3, [.ref q_told, .ref q_ways])), (q_told, .inr (4, [.int v_told_keepers, .int v_told_hates, .int v_told_sight, .int v_told_sightTold, .ref q_told_flashes, .ref q_told_haters]))] := hD
    refine lv_icmp_ge (tgt := 100) hx hb dX3_calmest_24 (by decide) (fun c4 => ?_) (fun c4 => ?_)
    · have hres := it_t hres c4
      have hP : va_P g.1 vwCl [(q_this, .inr (3, [.ref q_told, .ref q_ways])), (q_told, .inr (4, [.int v_told_keepers, .int v_told_hates, .int v_told_sight, .int v_told_sightTold, .ref q_told_flashes, .ref q_told_haters])), (q_ways, .inr (5, [.int v_ways_rocks, .int v_ways_many, .ref q_ways_keepers, .ref q_ways_changed, .ref q_ways_row])), (q_ways_keepers, .inl (g.2.1, 4320, .inl f_ways_keepers)), (q_told_haters, .inl (g.2.1, 6, .inl f_told_haters)), (q_told_flashes, .inl (g.2.1, 6, .inl f_told_flashes)), (q_ways_changed, .inl (g.2.1, 3600, .inl f_ways_changed))] H := hP.sub [5, 6, 0, 1, 2, 3, 4] rfl
      have hD : va_D A [(q_this, .inr (3, [.ref q_told, .ref q_ways])), (q_told, .inr (4, [.int v_told_keepers, .int v_told_hates, .int v_told_sight, .int v_told_sightTold, .ref q_told_flashes, .ref q_told_haters])), (q_ways, .inr (5, [.int v_ways_rocks, .int v_ways_many, .ref q_ways_keepers, .ref q_ways_changed, .ref q_ways_row])), (q_ways_keepers, .inl (g.2.1, 4320, .inl f_ways_keepers)), (q_told_haters, .inl (g.2.1, 6, .inl f_told_haters)), (q_told_flashes, .inl (g.2.1, 6, .inl f_told_flashes)), (q_ways_changed, .inl (g.2.1, 3600, .inl f_ways_changed))] := hD.sub [5, 6, 0, 1, 2, 3, 4] (by decide) rfl
      exact K _ _ _ _ _ _ hP hD hS hl hres
    · have hres := it_f hres c4
      refine lv_iload_n hx hb dX3_calmest_27 rfl (lv_at hl 2 rfl) ?_
      refine lv_iload hx hb dX3_calmest_28 (lv_at hl 5 rfl) ?_
      obtain ⟨u5, hu5, hres⟩ := bd hres
      refine k_i C0 (run_S (As := [.int x2, .int x5]) (rest := []) C0 (c_X3_allows l g (x0 := x2) (x1 := x5) (u0 := u5) hu5 _) 2 gX3_calmest_X3_allows rfl rfl rfl hd_X3_allows ⟨Nat.le_of_ble_eq_true rfl, Nat.le_of_ble_eq_true rfl⟩ hP hD hS [] rfl rfl rfl hl.1 rfl (Nat.le_of_ble_eq_true rfl) ⟨Nat.zero_le _, Nat.zero_le _⟩ dX3_calmest_30) hP hD hS [] [0, 1, 2, 3, 4, 5, 6] rfl rfl rfl (by decide) (fun H locs hP hD hS => ?_)
      have hP : va_P g.1 vwCl [(q_ways, .inr (5, [.int v_ways_rocks, .int v_ways_many, .ref q_ways_keepers, .ref q_ways_changed, .ref q_ways_row])), (q_ways_keepers, .inl (g.2.1, 4320, .inl f_ways_keepers)), (q_told_haters, .inl (g.2.1, 6, .inl f_told_haters)), (q_told_flashes, .inl (g.2.1, 6, .inl f_told_flashes)), (q_ways_changed, .inl (g.2.1, 3600, .inl f_ways_changed)), (q_this, .inr (3, [.ref q_told, .ref q_ways])), (q_told, .inr (4, [.int v_told_keepers, .int v_told_hates, .int v_told_sight, .int v_told_sightTold, .ref q_told_flashes, .ref q_told_haters]))] H := hP
      have hD : va_D A [(q_ways, .inr (5, [.int v_ways_rocks, .int v_ways_many, .ref q_ways_keepers, .ref q_ways_changed, .ref q_ways_row])), (q_ways_keepers, .inl (g.2.1, 4320, .inl f_ways_keepers)), (q_told_haters, .inl (g.2.1, 6, .inl f_told_haters)), (q_told_flashes, .inl (g.2.1, 6, .inl f_told_flashes)), (q_ways_changed, .inl (g.2.1, 3600, .inl f_ways_changed)), (q_this, .inr (3, [.ref q_told, .ref q_ways])), (q_told, .inr (4, [.int v_told_keepers, .int v_told_hates, .int v_told_sight, .int v_told_sightTold, .ref q_told_flashes, .ref q_told_haters]))] := hD
      refine lv_if_eq (tgt := 94) hx hb dX3_calmest_33 (by decide) (fun c6 => ?_) (fun c6 => ?_)
      · have hres := it_t hres c6
        refine lv_iinc (v := (x5 + 1)) (lv' := [(5, .int (x5 + 1)), (0, .ref q_this), (1, .int x1), (2, .int x2), (3, .int x3), (4, .int x4)]) hx hb dX3_calmest_94 hl (k := 5) rfl rfl (by decide) rfl (fun ls hl => ?_)
        refine lv_goto (tgt := 18) hx hb dX3_calmest_97 (by decide) ?_
        have hP : va_P g.1 vwCl [(q_this, .inr (3, [.ref q_told, .ref q_ways])), (q_told, .inr (4, [.int v_told_keepers, .int v_told_hates, .int v_told_sight, .int v_told_sightTold, .ref q_told_flashes, .ref q_told_haters])), (q_ways, .inr (5, [.int v_ways_rocks, .int v_ways_many, .ref q_ways_keepers, .ref q_ways_changed, .ref q_ways_row])), (q_ways_keepers, .inl (g.2.1, 4320, .inl f_ways_keepers)), (q_told_haters, .inl (g.2.1, 6, .inl f_told_haters)), (q_told_flashes, .inl (g.2.1, 6, .inl f_told_flashes)), (q_ways_changed, .inl (g.2.1, 3600, .inl f_ways_changed))] H := hP.sub [5, 6, 0, 1, 2, 3, 4] rfl
        have hD : va_D A [(q_this, .inr (3, [.ref q_told, .ref q_ways])), (q_told, .inr (4, [.int v_told_keepers, .int v_told_hates, .int v_told_sight, .int v_told_sightTold, .ref q_told_flashes, .ref q_told_haters])), (q_ways, .inr (5, [.int v_ways_rocks, .int v_ways_many, .ref q_ways_keepers, .ref q_ways_changed, .ref q_ways_row])), (q_ways_keepers, .inl (g.2.1, 4320, .inl f_ways_keepers)), (q_told_haters, .inl (g.2.1, 6, .inl f_told_haters)), (q_told_flashes, .inl (g.2.1, 6, .inl f_told_flashes)), (q_ways_changed, .inl (g.2.1, 3600, .inl f_ways_changed))] := hD.sub [5, 6, 0, 1, 2, 3, 4] (by decide) rfl
        have hl : lv_has ls 8 [(0, .ref q_this), (1, .int x1), (2, .int x2), (3, .int x3), (4, .int x4), (5, .int (x5 + 1))] := lv_sub hl [1, 2, 3, 4, 5, 0] rfl
        exact ih hP hS hl hres
      · have hres := it_f hres c6
        refine lv_aload_n hx hb dX3_calmest_36 rfl (lv_at hl 0 rfl) ?_
        refine lv_aload_n hx hb dX3_calmest_37 rfl (lv_at hl 0 rfl) ?_
        refine lv_iload_n hx hb dX3_calmest_38 rfl (lv_at hl 1 rfl) ?_
        refine lv_iload hx hb dX3_calmest_39 (lv_at hl 5 rfl) ?_
        obtain ⟨u7, hu7, hres⟩ := bd hres
        refine k_i C0 (run_V (As := [.int x1, .int x5]) (rest := [.ref q_this]) C0 (c_X3_after l g (q_this := q_this) (q_told := q_told) (q_ways := q_ways) (q_ways_keepers := q_ways_keepers) (q_ways_changed := q_ways_changed) (q_ways_row := q_ways_row) (v_ways_rocks := v_ways_rocks) (v_ways_many := v_ways_many) (f_ways_changed := f_ways_changed) (x1 := x1) (x2 := x5) (u0 := u7) hu7 _) 2 gX3_calmest_X3_after rfl rfl rfl hd_X3_after ⟨Nat.le_of_ble_eq_true rfl, Nat.le_of_ble_eq_true rfl⟩ hP hD hS [5, 0, 4] rfl rfl 5 3 rfl rfl rfl hl.1 rfl (Nat.le_of_ble_eq_true rfl) ⟨Nat.zero_le _, Nat.zero_le _⟩ dX3_calmest_41) hP hD hS [5, 0, 4] [1, 2, 3, 6] rfl rfl rfl (by decide) (fun H locs hP hD hS => ?_)
        have hP : va_P g.1 vwCl [(q_ways_keepers, .inl (g.2.1, 4320, .inl f_ways_keepers)), (q_told_haters, .inl (g.2.1, 6, .inl f_told_haters)), (q_told_flashes, .inl (g.2.1, 6, .inl f_told_flashes)), (q_told, .inr (4, [.int v_told_keepers, .int v_told_hates, .int v_told_sight, .int v_told_sightTold, .ref q_told_flashes, .ref q_told_haters])), (q_this, .inr (3, [.ref q_told, .ref q_ways])), (q_ways, .inr (5, [.int v_ways_rocks, .int v_ways_many, .ref q_ways_keepers, .ref q_ways_changed, .ref q_ways_row])), (q_ways_changed, .inl (g.2.1, 3600, .inl f_ways_changed))] H := hP
        have hD : va_D A [(q_ways_keepers, .inl (g.2.1, 4320, .inl f_ways_keepers)), (q_told_haters, .inl (g.2.1, 6, .inl f_told_haters)), (q_told_flashes, .inl (g.2.1, 6, .inl f_told_flashes)), (q_told, .inr (4, [.int v_told_keepers, .int v_told_hates, .int v_told_sight, .int v_told_sightTold, .ref q_told_flashes, .ref q_told_haters])), (q_this, .inr (3, [.ref q_told, .ref q_ways])), (q_ways, .inr (5, [.int v_ways_rocks, .int v_ways_many, .ref q_ways_keepers, .ref q_ways_changed, .ref q_ways_row])), (q_ways_changed, .inl (g.2.1, 3600, .inl f_ways_changed))] := hD
        obtain ⟨u8, hu8, hres⟩ := bd hres
        refine k_i C0 (run_V (As := [.int u7]) (rest := []) C0 (c_X3_likes l g (q_this := q_this) (q_told := q_told) (q_ways := q_ways) (q_told_flashes := q_told_flashes) (q_told_haters := q_told_haters) (q_ways_keepers := q_ways_keepers) (q_ways_changed := q_ways_changed) (q_ways_row := q_ways_row) (v_told_keepers := v_told_keepers) (v_told_hates := v_told_hates) (v_told_sight := v_told_sight) (v_told_sightTold := v_told_sightTold) (v_ways_rocks := v_ways_rocks) (v_ways_many := v_ways_many) (f_ways_keepers := f_ways_keepers) (f_told_flashes := f_told_flashes) (x1 := u7) (u0 := u8) hu8 _) 1 gX3_calmest_X3_likes rfl rfl rfl hd_X3_likes ⟨Nat.le_of_ble_eq_true rfl, Nat.le_of_ble_eq_true rfl⟩ hP hD hS [4, 3, 5, 0, 2] rfl rfl 4 3 rfl rfl rfl hl.1 rfl (Nat.le_of_ble_eq_true rfl) ⟨Nat.zero_le _, Nat.zero_le _⟩ dX3_calmest_44) hP hD hS [4, 3, 5, 0, 2] [1, 6] rfl rfl rfl (by decide) (fun H locs hP hD hS => ?_)
        have hP : va_P g.1 vwCl [(q_told_haters, .inl (g.2.1, 6, .inl f_told_haters)), (q_ways_changed, .inl (g.2.1, 3600, .inl f_ways_changed)), (q_this, .inr (3, [.ref q_told, .ref q_ways])), (q_told, .inr (4, [.int v_told_keepers, .int v_told_hates, .int v_told_sight, .int v_told_sightTold, .ref q_told_flashes, .ref q_told_haters])), (q_ways, .inr (5, [.int v_ways_rocks, .int v_ways_many, .ref q_ways_keepers, .ref q_ways_changed, .ref q_ways_row])), (q_ways_keepers, .inl (g.2.1, 4320, .inl f_ways_keepers)), (q_told_flashes, .inl (g.2.1, 6, .inl f_told_flashes))] H := hP
        have hD : va_D A [(q_told_haters, .inl (g.2.1, 6, .inl f_told_haters)), (q_ways_changed, .inl (g.2.1, 3600, .inl f_ways_changed)), (q_this, .inr (3, [.ref q_told, .ref q_ways])), (q_told, .inr (4, [.int v_told_keepers, .int v_told_hates, .int v_told_sight, .int v_told_sightTold, .ref q_told_flashes, .ref q_told_haters])), (q_ways, .inr (5, [.int v_ways_rocks, .int v_ways_many, .ref q_ways_keepers, .ref q_ways_changed, .ref q_ways_row])), (q_ways_keepers, .inl (g.2.1, 4320, .inl f_ways_keepers)), (q_told_flashes, .inl (g.2.1, 6, .inl f_told_flashes))] := hD
        refine lv_istore (lv' := [(6, .int u8), (0, .ref q_this), (1, .int x1), (2, .int x2), (3, .int x3), (4, .int x4), (5, .int x5)]) hx hb dX3_calmest_47 hl (by decide) rfl (fun ls hl => ?_)
        refine lv_iload hx hb dX3_calmest_49 (lv_at hl 6 rfl) ?_
        obtain ⟨u9, hu9, hres⟩ := bd hres
        refine k_i C0 (run_S (As := [.int x5]) (rest := []) C0 (c_J6_bitCount_0f7a4 l g (x0 := x5) (u0 := u9) hu9 _) 1 gX3_calmest_J6_bitCount_0f7a4 rfl rfl rfl hd_J6_bitCount_0f7a4 ⟨Nat.le_of_ble_eq_true rfl, Nat.le_of_ble_eq_true rfl⟩ hP hD hS [] rfl rfl rfl hl.1 rfl (Nat.le_of_ble_eq_true rfl) ⟨Nat.zero_le _, Nat.zero_le _⟩ dX3_calmest_51) hP hD hS [] [0, 1, 2, 3, 4, 5, 6] rfl rfl rfl (by decide) (fun H locs hP hD hS => ?_)
        have hP : va_P g.1 vwCl [(q_told_haters, .inl (g.2.1, 6, .inl f_told_haters)), (q_ways_changed, .inl (g.2.1, 3600, .inl f_ways_changed)), (q_this, .inr (3, [.ref q_told, .ref q_ways])), (q_told, .inr (4, [.int v_told_keepers, .int v_told_hates, .int v_told_sight, .int v_told_sightTold, .ref q_told_flashes, .ref q_told_haters])), (q_ways, .inr (5, [.int v_ways_rocks, .int v_ways_many, .ref q_ways_keepers, .ref q_ways_changed, .ref q_ways_row])), (q_ways_keepers, .inl (g.2.1, 4320, .inl f_ways_keepers)), (q_told_flashes, .inl (g.2.1, 6, .inl f_told_flashes))] H := hP
        have hD : va_D A [(q_told_haters, .inl (g.2.1, 6, .inl f_told_haters)), (q_ways_changed, .inl (g.2.1, 3600, .inl f_ways_changed)), (q_this, .inr (3, [.ref q_told, .ref q_ways])), (q_told, .inr (4, [.int v_told_keepers, .int v_told_hates, .int v_told_sight, .int v_told_sightTold, .ref q_told_flashes, .ref q_told_haters])), (q_ways, .inr (5, [.int v_ways_rocks, .int v_ways_many, .ref q_ways_keepers, .ref q_ways_changed, .ref q_ways_row])), (q_ways_keepers, .inl (g.2.1, 4320, .inl f_ways_keepers)), (q_told_flashes, .inl (g.2.1, 6, .inl f_told_flashes))] := hD
        refine lv_iload_n hx hb dX3_calmest_54 rfl (lv_at hl 4 rfl) ?_
        obtain ⟨u10, hu10, hres⟩ := bd hres
        refine k_i C0 (run_S (As := [.int x3]) (rest := [.int u9]) C0 (c_J6_bitCount_0f7a4 l g (x0 := x3) (u0 := u10) hu10 _) 1 gX3_calmest_J6_bitCount_0f7a4 rfl rfl rfl hd_J6_bitCount_0f7a4 ⟨Nat.le_of_ble_eq_true rfl, Nat.le_of_ble_eq_true rfl⟩ hP hD hS [] rfl rfl rfl hl.1 rfl (Nat.le_of_ble_eq_true rfl) ⟨Nat.zero_le _, Nat.zero_le _⟩ dX3_calmest_55) hP hD hS [] [0, 1, 2, 3, 4, 5, 6] rfl rfl rfl (by decide) (fun H locs hP hD hS => ?_)
        have hP : va_P g.1 vwCl [(q_told_haters, .inl (g.2.1, 6, .inl f_told_haters)), (q_ways_changed, .inl (g.2.1, 3600, .inl f_ways_changed)), (q_this, .inr (3, [.ref q_told, .ref q_ways])), (q_told, .inr (4, [.int v_told_keepers, .int v_told_hates, .int v_told_sight, .int v_told_sightTold, .ref q_told_flashes, .ref q_told_haters])), (q_ways, .inr (5, [.int v_ways_rocks, .int v_ways_many, .ref q_ways_keepers, .ref q_ways_changed, .ref q_ways_row])), (q_ways_keepers, .inl (g.2.1, 4320, .inl f_ways_keepers)), (q_told_flashes, .inl (g.2.1, 6, .inl f_told_flashes))] H := hP
        have hD : va_D A [(q_told_haters, .inl (g.2.1, 6, .inl f_told_haters)), (q_ways_changed, .inl (g.2.1, 3600, .inl f_ways_changed)), (q_this, .inr (3, [.ref q_told, .ref q_ways])), (q_told, .inr (4, [.int v_told_keepers, .int v_told_hates, .int v_told_sight, .int v_told_sightTold, .ref q_told_flashes, .ref q_told_haters])), (q_ways, .inr (5, [.int v_ways_rocks, .int v_ways_many, .ref q_ways_keepers, .ref q_ways_changed, .ref q_ways_row])), (q_ways_keepers, .inl (g.2.1, 4320, .inl f_ways_keepers)), (q_told_flashes, .inl (g.2.1, 6, .inl f_told_flashes))] := hD
        refine lv_icmp_le (tgt := 65) hx hb dX3_calmest_58 (by decide) (fun c11 => ?_) (fun c11 => ?_)
        · have hres := it_t hres c11
          refine lv_iconst (v := 0) hx hb dX3_calmest_65 (by decide) ?_
          refine lv_istore (lv' := [(7, .int 0), (6, .int u8), (0, .ref q_this), (1, .int x1), (2, .int x2), (3, .int x3), (4, .int x4), (5, .int x5)]) hx hb dX3_calmest_66 hl (by decide) rfl (fun ls hl => ?_)
          refine lv_iload hx hb dX3_calmest_68 (lv_at hl 1 rfl) ?_
          refine lv_iload hx hb dX3_calmest_70 (lv_at hl 6 rfl) ?_
          refine lv_icmp_lt (tgt := 87) hx hb dX3_calmest_72 (by decide) (fun c12 => ?_) (fun c12 => ?_)
          · have hres := it_t hres c12
            refine lv_iload hx hb dX3_calmest_87 (lv_at hl 7 rfl) ?_
            refine lv_istore_n (lv' := [(3, .int x5), (7, .int 0), (6, .int u8), (0, .ref q_this), (1, .int x1), (2, .int x2), (4, .int x4), (5, .int x5)]) hx hb dX3_calmest_89 rfl hl (by decide) rfl (fun ls hl => ?_)
            refine lv_iload hx hb dX3_calmest_90 (lv_at hl 2 rfl) ?_
            refine lv_istore (lv' := [(4, .int u8), (3, .int x5), (7, .int 0), (6, .int u8), (0, .ref q_this), (1, .int x1), (2, .int x2), (5, .int x5)]) hx hb dX3_calmest_92 hl (by decide) rfl (fun ls hl => ?_)
            refine lv_iinc (v := (x5 + 1)) (lv' := [(5, .int (x5 + 1)), (4, .int u8), (3, .int x5), (7, .int 0), (6, .int u8), (0, .ref q_this), (1, .int x1), (2, .int x2)]) hx hb dX3_calmest_94 hl (k := 7) rfl rfl (by decide) rfl (fun ls hl => ?_)
            refine lv_goto (tgt := 18) hx hb dX3_calmest_97 (by decide) ?_
            have hP : va_P g.1 vwCl [(q_this, .inr (3, [.ref q_told, .ref q_ways])), (q_told, .inr (4, [.int v_told_keepers, .int v_told_hates, .int v_told_sight, .int v_told_sightTold, .ref q_told_flashes, .ref q_told_haters])), (q_ways, .inr (5, [.int v_ways_rocks, .int v_ways_many, .ref q_ways_keepers, .ref q_ways_changed, .ref q_ways_row])), (q_ways_keepers, .inl (g.2.1, 4320, .inl f_ways_keepers)), (q_told_haters, .inl (g.2.1, 6, .inl f_told_haters)), (q_told_flashes, .inl (g.2.1, 6, .inl f_told_flashes)), (q_ways_changed, .inl (g.2.1, 3600, .inl f_ways_changed))] H := hP.sub [2, 3, 4, 5, 0, 6, 1] rfl
            have hD : va_D A [(q_this, .inr (3, [.ref q_told, .ref q_ways])), (q_told, .inr (4, [.int v_told_keepers, .int v_told_hates, .int v_told_sight, .int v_told_sightTold, .ref q_told_flashes, .ref q_told_haters])), (q_ways, .inr (5, [.int v_ways_rocks, .int v_ways_many, .ref q_ways_keepers, .ref q_ways_changed, .ref q_ways_row])), (q_ways_keepers, .inl (g.2.1, 4320, .inl f_ways_keepers)), (q_told_haters, .inl (g.2.1, 6, .inl f_told_haters)), (q_told_flashes, .inl (g.2.1, 6, .inl f_told_flashes)), (q_ways_changed, .inl (g.2.1, 3600, .inl f_ways_changed))] := hD.sub [2, 3, 4, 5, 0, 6, 1] (by decide) rfl
            have hl : lv_has ls 8 [(0, .ref q_this), (1, .int x1), (2, .int x2), (3, .int x5), (4, .int u8), (5, .int (x5 + 1))] := lv_sub hl [5, 6, 7, 2, 1, 0] rfl
            exact ih hP hS hl hres
          · have hres := it_f hres c12
            refine lv_iload hx hb dX3_calmest_75 (lv_at hl 1 rfl) ?_
            refine lv_iload hx hb dX3_calmest_77 (lv_at hl 6 rfl) ?_
            refine lv_icmp_ne (tgt := 94) hx hb dX3_calmest_79 (by decide) (fun c13 => ?_) (fun c13 => ?_)
            · have hres := it_f hres c13
              refine lv_iinc (v := (x5 + 1)) (lv' := [(5, .int (x5 + 1)), (7, .int 0), (6, .int u8), (0, .ref q_this), (1, .int x1), (2, .int x2), (3, .int x3), (4, .int x4)]) hx hb dX3_calmest_94 hl (k := 7) rfl rfl (by decide) rfl (fun ls hl => ?_)
              refine lv_goto (tgt := 18) hx hb dX3_calmest_97 (by decide) ?_
              have hP : va_P g.1 vwCl [(q_this, .inr (3, [.ref q_told, .ref q_ways])), (q_told, .inr (4, [.int v_told_keepers, .int v_told_hates, .int v_told_sight, .int v_told_sightTold, .ref q_told_flashes, .ref q_told_haters])), (q_ways, .inr (5, [.int v_ways_rocks, .int v_ways_many, .ref q_ways_keepers, .ref q_ways_changed, .ref q_ways_row])), (q_ways_keepers, .inl (g.2.1, 4320, .inl f_ways_keepers)), (q_told_haters, .inl (g.2.1, 6, .inl f_told_haters)), (q_told_flashes, .inl (g.2.1, 6, .inl f_told_flashes)), (q_ways_changed, .inl (g.2.1, 3600, .inl f_ways_changed))] H := hP.sub [2, 3, 4, 5, 0, 6, 1] rfl
              have hD : va_D A [(q_this, .inr (3, [.ref q_told, .ref q_ways])), (q_told, .inr (4, [.int v_told_keepers, .int v_told_hates, .int v_told_sight, .int v_told_sightTold, .ref q_told_flashes, .ref q_told_haters])), (q_ways, .inr (5, [.int v_ways_rocks, .int v_ways_many, .ref q_ways_keepers, .ref q_ways_changed, .ref q_ways_row])), (q_ways_keepers, .inl (g.2.1, 4320, .inl f_ways_keepers)), (q_told_haters, .inl (g.2.1, 6, .inl f_told_haters)), (q_told_flashes, .inl (g.2.1, 6, .inl f_told_flashes)), (q_ways_changed, .inl (g.2.1, 3600, .inl f_ways_changed))] := hD.sub [2, 3, 4, 5, 0, 6, 1] (by decide) rfl
              have hl : lv_has ls 8 [(0, .ref q_this), (1, .int x1), (2, .int x2), (3, .int x3), (4, .int x4), (5, .int (x5 + 1))] := lv_sub hl [3, 4, 5, 6, 7, 0] rfl
              exact ih hP hS hl hres
            · have hres := it_t hres c13
              refine lv_iload hx hb dX3_calmest_82 (lv_at hl 0 rfl) ?_
              refine lv_if_eq (tgt := 94) hx hb dX3_calmest_84 (by decide) (fun _ => ?_) (fun c9 => absurd (by decide) c9)
              refine lv_iinc (v := (x5 + 1)) (lv' := [(5, .int (x5 + 1)), (7, .int 0), (6, .int u8), (0, .ref q_this), (1, .int x1), (2, .int x2), (3, .int x3), (4, .int x4)]) hx hb dX3_calmest_94 hl (k := 7) rfl rfl (by decide) rfl (fun ls hl => ?_)
              refine lv_goto (tgt := 18) hx hb dX3_calmest_97 (by decide) ?_
              have hP : va_P g.1 vwCl [(q_this, .inr (3, [.ref q_told, .ref q_ways])), (q_told, .inr (4, [.int v_told_keepers, .int v_told_hates, .int v_told_sight, .int v_told_sightTold, .ref q_told_flashes, .ref q_told_haters])), (q_ways, .inr (5, [.int v_ways_rocks, .int v_ways_many, .ref q_ways_keepers, .ref q_ways_changed, .ref q_ways_row])), (q_ways_keepers, .inl (g.2.1, 4320, .inl f_ways_keepers)), (q_told_haters, .inl (g.2.1, 6, .inl f_told_haters)), (q_told_flashes, .inl (g.2.1, 6, .inl f_told_flashes)), (q_ways_changed, .inl (g.2.1, 3600, .inl f_ways_changed))] H := hP.sub [2, 3, 4, 5, 0, 6, 1] rfl
              have hD : va_D A [(q_this, .inr (3, [.ref q_told, .ref q_ways])), (q_told, .inr (4, [.int v_told_keepers, .int v_told_hates, .int v_told_sight, .int v_told_sightTold, .ref q_told_flashes, .ref q_told_haters])), (q_ways, .inr (5, [.int v_ways_rocks, .int v_ways_many, .ref q_ways_keepers, .ref q_ways_changed, .ref q_ways_row])), (q_ways_keepers, .inl (g.2.1, 4320, .inl f_ways_keepers)), (q_told_haters, .inl (g.2.1, 6, .inl f_told_haters)), (q_told_flashes, .inl (g.2.1, 6, .inl f_told_flashes)), (q_ways_changed, .inl (g.2.1, 3600, .inl f_ways_changed))] := hD.sub [2, 3, 4, 5, 0, 6, 1] (by decide) rfl
              have hl : lv_has ls 8 [(0, .ref q_this), (1, .int x1), (2, .int x2), (3, .int x3), (4, .int x4), (5, .int (x5 + 1))] := lv_sub hl [3, 4, 5, 6, 7, 0] rfl
              exact ih hP hS hl hres
        · have hres := it_f hres c11
          refine lv_iconst (v := 1) hx hb dX3_calmest_61 (by decide) ?_
          refine lv_goto (tgt := 66) hx hb dX3_calmest_62 (by decide) ?_
          refine lv_istore (lv' := [(7, .int 1), (6, .int u8), (0, .ref q_this), (1, .int x1), (2, .int x2), (3, .int x3), (4, .int x4), (5, .int x5)]) hx hb dX3_calmest_66 hl (by decide) rfl (fun ls hl => ?_)
          refine lv_iload hx hb dX3_calmest_68 (lv_at hl 1 rfl) ?_
          refine lv_iload hx hb dX3_calmest_70 (lv_at hl 6 rfl) ?_
          refine lv_icmp_lt (tgt := 87) hx hb dX3_calmest_72 (by decide) (fun c14 => ?_) (fun c14 => ?_)
          · have hres := it_t hres c14
            refine lv_iload hx hb dX3_calmest_87 (lv_at hl 7 rfl) ?_
            refine lv_istore_n (lv' := [(3, .int x5), (7, .int 1), (6, .int u8), (0, .ref q_this), (1, .int x1), (2, .int x2), (4, .int x4), (5, .int x5)]) hx hb dX3_calmest_89 rfl hl (by decide) rfl (fun ls hl => ?_)
            refine lv_iload hx hb dX3_calmest_90 (lv_at hl 2 rfl) ?_
            refine lv_istore (lv' := [(4, .int u8), (3, .int x5), (7, .int 1), (6, .int u8), (0, .ref q_this), (1, .int x1), (2, .int x2), (5, .int x5)]) hx hb dX3_calmest_92 hl (by decide) rfl (fun ls hl => ?_)
            refine lv_iinc (v := (x5 + 1)) (lv' := [(5, .int (x5 + 1)), (4, .int u8), (3, .int x5), (7, .int 1), (6, .int u8), (0, .ref q_this), (1, .int x1), (2, .int x2)]) hx hb dX3_calmest_94 hl (k := 7) rfl rfl (by decide) rfl (fun ls hl => ?_)
            refine lv_goto (tgt := 18) hx hb dX3_calmest_97 (by decide) ?_
            have hP : va_P g.1 vwCl [(q_this, .inr (3, [.ref q_told, .ref q_ways])), (q_told, .inr (4, [.int v_told_keepers, .int v_told_hates, .int v_told_sight, .int v_told_sightTold, .ref q_told_flashes, .ref q_told_haters])), (q_ways, .inr (5, [.int v_ways_rocks, .int v_ways_many, .ref q_ways_keepers, .ref q_ways_changed, .ref q_ways_row])), (q_ways_keepers, .inl (g.2.1, 4320, .inl f_ways_keepers)), (q_told_haters, .inl (g.2.1, 6, .inl f_told_haters)), (q_told_flashes, .inl (g.2.1, 6, .inl f_told_flashes)), (q_ways_changed, .inl (g.2.1, 3600, .inl f_ways_changed))] H := hP.sub [2, 3, 4, 5, 0, 6, 1] rfl
            have hD : va_D A [(q_this, .inr (3, [.ref q_told, .ref q_ways])), (q_told, .inr (4, [.int v_told_keepers, .int v_told_hates, .int v_told_sight, .int v_told_sightTold, .ref q_told_flashes, .ref q_told_haters])), (q_ways, .inr (5, [.int v_ways_rocks, .int v_ways_many, .ref q_ways_keepers, .ref q_ways_changed, .ref q_ways_row])), (q_ways_keepers, .inl (g.2.1, 4320, .inl f_ways_keepers)), (q_told_haters, .inl (g.2.1, 6, .inl f_told_haters)), (q_told_flashes, .inl (g.2.1, 6, .inl f_told_flashes)), (q_ways_changed, .inl (g.2.1, 3600, .inl f_ways_changed))] := hD.sub [2, 3, 4, 5, 0, 6, 1] (by decide) rfl
            have hl : lv_has ls 8 [(0, .ref q_this), (1, .int x1), (2, .int x2), (3, .int x5), (4, .int u8), (5, .int (x5 + 1))] := lv_sub hl [5, 6, 7, 2, 1, 0] rfl
            exact ih hP hS hl hres
          · have hres := it_f hres c14
            refine lv_iload hx hb dX3_calmest_75 (lv_at hl 1 rfl) ?_
            refine lv_iload hx hb dX3_calmest_77 (lv_at hl 6 rfl) ?_
            refine lv_icmp_ne (tgt := 94) hx hb dX3_calmest_79 (by decide) (fun c15 => ?_) (fun c15 => ?_)
            · have hres := it_f hres c15
              refine lv_iinc (v := (x5 + 1)) (lv' := [(5, .int (x5 + 1)), (7, .int 1), (6, .int u8), (0, .ref q_this), (1, .int x1), (2, .int x2), (3, .int x3), (4, .int x4)]) hx hb dX3_calmest_94 hl (k := 7) rfl rfl (by decide) rfl (fun ls hl => ?_)
              refine lv_goto (tgt := 18) hx hb dX3_calmest_97 (by decide) ?_
              have hP : va_P g.1 vwCl [(q_this, .inr (3, [.ref q_told, .ref q_ways])), (q_told, .inr (4, [.int v_told_keepers, .int v_told_hates, .int v_told_sight, .int v_told_sightTold, .ref q_told_flashes, .ref q_told_haters])), (q_ways, .inr (5, [.int v_ways_rocks, .int v_ways_many, .ref q_ways_keepers, .ref q_ways_changed, .ref q_ways_row])), (q_ways_keepers, .inl (g.2.1, 4320, .inl f_ways_keepers)), (q_told_haters, .inl (g.2.1, 6, .inl f_told_haters)), (q_told_flashes, .inl (g.2.1, 6, .inl f_told_flashes)), (q_ways_changed, .inl (g.2.1, 3600, .inl f_ways_changed))] H := hP.sub [2, 3, 4, 5, 0, 6, 1] rfl
              have hD : va_D A [(q_this, .inr (3, [.ref q_told, .ref q_ways])), (q_told, .inr (4, [.int v_told_keepers, .int v_told_hates, .int v_told_sight, .int v_told_sightTold, .ref q_told_flashes, .ref q_told_haters])), (q_ways, .inr (5, [.int v_ways_rocks, .int v_ways_many, .ref q_ways_keepers, .ref q_ways_changed, .ref q_ways_row])), (q_ways_keepers, .inl (g.2.1, 4320, .inl f_ways_keepers)), (q_told_haters, .inl (g.2.1, 6, .inl f_told_haters)), (q_told_flashes, .inl (g.2.1, 6, .inl f_told_flashes)), (q_ways_changed, .inl (g.2.1, 3600, .inl f_ways_changed))] := hD.sub [2, 3, 4, 5, 0, 6, 1] (by decide) rfl
              have hl : lv_has ls 8 [(0, .ref q_this), (1, .int x1), (2, .int x2), (3, .int x3), (4, .int x4), (5, .int (x5 + 1))] := lv_sub hl [3, 4, 5, 6, 7, 0] rfl
              exact ih hP hS hl hres
            · have hres := it_t hres c15
              refine lv_iload hx hb dX3_calmest_82 (lv_at hl 0 rfl) ?_
              refine lv_if_eq (tgt := 94) hx hb dX3_calmest_84 (by decide) (fun c9 => absurd c9 (by decide)) (fun _ => ?_)
              refine lv_iload hx hb dX3_calmest_87 (lv_at hl 7 rfl) ?_
              refine lv_istore_n (lv' := [(3, .int x5), (7, .int 1), (6, .int u8), (0, .ref q_this), (1, .int x1), (2, .int x2), (4, .int x4), (5, .int x5)]) hx hb dX3_calmest_89 rfl hl (by decide) rfl (fun ls hl => ?_)
              refine lv_iload hx hb dX3_calmest_90 (lv_at hl 2 rfl) ?_
              refine lv_istore (lv' := [(4, .int u8), (3, .int x5), (7, .int 1), (6, .int u8), (0, .ref q_this), (1, .int x1), (2, .int x2), (5, .int x5)]) hx hb dX3_calmest_92 hl (by decide) rfl (fun ls hl => ?_)
              refine lv_iinc (v := (x5 + 1)) (lv' := [(5, .int (x5 + 1)), (4, .int u8), (3, .int x5), (7, .int 1), (6, .int u8), (0, .ref q_this), (1, .int x1), (2, .int x2)]) hx hb dX3_calmest_94 hl (k := 7) rfl rfl (by decide) rfl (fun ls hl => ?_)
              refine lv_goto (tgt := 18) hx hb dX3_calmest_97 (by decide) ?_
              have hP : va_P g.1 vwCl [(q_this, .inr (3, [.ref q_told, .ref q_ways])), (q_told, .inr (4, [.int v_told_keepers, .int v_told_hates, .int v_told_sight, .int v_told_sightTold, .ref q_told_flashes, .ref q_told_haters])), (q_ways, .inr (5, [.int v_ways_rocks, .int v_ways_many, .ref q_ways_keepers, .ref q_ways_changed, .ref q_ways_row])), (q_ways_keepers, .inl (g.2.1, 4320, .inl f_ways_keepers)), (q_told_haters, .inl (g.2.1, 6, .inl f_told_haters)), (q_told_flashes, .inl (g.2.1, 6, .inl f_told_flashes)), (q_ways_changed, .inl (g.2.1, 3600, .inl f_ways_changed))] H := hP.sub [2, 3, 4, 5, 0, 6, 1] rfl
              have hD : va_D A [(q_this, .inr (3, [.ref q_told, .ref q_ways])), (q_told, .inr (4, [.int v_told_keepers, .int v_told_hates, .int v_told_sight, .int v_told_sightTold, .ref q_told_flashes, .ref q_told_haters])), (q_ways, .inr (5, [.int v_ways_rocks, .int v_ways_many, .ref q_ways_keepers, .ref q_ways_changed, .ref q_ways_row])), (q_ways_keepers, .inl (g.2.1, 4320, .inl f_ways_keepers)), (q_told_haters, .inl (g.2.1, 6, .inl f_told_haters)), (q_told_flashes, .inl (g.2.1, 6, .inl f_told_flashes)), (q_ways_changed, .inl (g.2.1, 3600, .inl f_ways_changed))] := hD.sub [2, 3, 4, 5, 0, 6, 1] (by decide) rfl
              have hl : lv_has ls 8 [(0, .ref q_this), (1, .int x1), (2, .int x2), (3, .int x5), (4, .int u8), (5, .int (x5 + 1))] := lv_sub hl [5, 6, 7, 2, 1, 0] rfl
              exact ih hP hS hl hres
set_option maxHeartbeats 4000000 in
set_option maxRecDepth 100000 in
theorem c_X3_calmest (l : Launch) (g : gG) {q_this q_told q_ways q_told_flashes q_told_haters q_ways_keepers q_ways_changed q_ways_row : Nat} {v_told_keepers : Int32} {v_told_hates : Int32} {v_told_sight : Int32} {v_told_sightTold : Int32} {v_ways_rocks : Int32} {v_ways_many : Int32} {f_ways_keepers : Nat → Int32} {f_told_haters : Nat → Int32} {f_told_flashes : Nat → Int32} {f_ways_changed : Nat → Int32} {x1 : Int32} {u0 : Int32} (hres : f_X3_calmest v_told_keepers v_told_sight f_ways_keepers f_told_haters f_told_flashes f_ways_changed x1 = some u0) : Ci l g yX3_calmest wsX3_calmest rm_X3_calmest [.ref q_this, .int x1] [(q_this, .inr (3, [.ref q_told, .ref q_ways])), (q_told, .inr (4, [.int v_told_keepers, .int v_told_hates, .int v_told_sight, .int v_told_sightTold, .ref q_told_flashes, .ref q_told_haters])), (q_ways, .inr (5, [.int v_ways_rocks, .int v_ways_many, .ref q_ways_keepers, .ref q_ways_changed, .ref q_ways_row])), (q_ways_keepers, .inl (g.2.1, 4320, .inl f_ways_keepers)), (q_told_haters, .inl (g.2.1, 6, .inl f_told_haters)), (q_told_flashes, .inl (g.2.1, 6, .inl f_told_flashes)), (q_ways_changed, .inl (g.2.1, 3600, .inl f_ways_changed))] [(q_this, .inr (3, [.ref q_told, .ref q_ways])), (q_told, .inr (4, [.int v_told_keepers, .int v_told_hates, .int v_told_sight, .int v_told_sightTold, .ref q_told_flashes, .ref q_told_haters])), (q_ways, .inr (5, [.int v_ways_rocks, .int v_ways_many, .ref q_ways_keepers, .ref q_ways_changed, .ref q_ways_row])), (q_ways_keepers, .inl (g.2.1, 4320, .inl f_ways_keepers)), (q_told_haters, .inl (g.2.1, 6, .inl f_told_haters)), (q_told_flashes, .inl (g.2.1, 6, .inl f_told_flashes)), (q_ways_changed, .inl (g.2.1, 3600, .inl f_ways_changed))] u0 := by
  intro sz
  refine gBody (Qf := fun A => gQi g [(q_this, .inr (3, [.ref q_told, .ref q_ways])), (q_told, .inr (4, [.int v_told_keepers, .int v_told_hates, .int v_told_sight, .int v_told_sightTold, .ref q_told_flashes, .ref q_told_haters])), (q_ways, .inr (5, [.int v_ways_rocks, .int v_ways_many, .ref q_ways_keepers, .ref q_ways_changed, .ref q_ways_row])), (q_ways_keepers, .inl (g.2.1, 4320, .inl f_ways_keepers)), (q_told_haters, .inl (g.2.1, 6, .inl f_told_haters)), (q_told_flashes, .inl (g.2.1, 6, .inl f_told_flashes)), (q_ways_changed, .inl (g.2.1, 3600, .inl f_ways_changed))] u0 A) (cc := cX3_calmest) (maxL := 8) (ret := (some .int)) (own := RX3) (by decide +kernel) rfl rfl (Nat.le_of_ble_eq_true rfl) ?_
  intro p e s m args below meth c A C0 H hS hD hP ls hl
  obtain ⟨hx, hb, hml, hown, hts, hr, hlk, hN, hK, hF, hA⟩ := id C0
  have hl : lv_has ls 8 [(0, .ref q_this), (1, .int x1)] := hl
  unfold f_X3_calmest at hres
  refine lv_aload_n hx hb dX3_calmest_0 rfl (lv_at hl 0 rfl) ?_
  refine lv_iload_n hx hb dX3_calmest_1 rfl (lv_at hl 1 rfl) ?_
  obtain ⟨u1, hu1, hres⟩ := bd hres
  refine k_i C0 (run_V (As := [.int x1]) (rest := []) C0 (c_X3_willing l g (q_this := q_this) (q_told := q_told) (q_ways := q_ways) (q_told_flashes := q_told_flashes) (q_told_haters := q_told_haters) (q_ways_keepers := q_ways_keepers) (q_ways_changed := q_ways_changed) (q_ways_row := q_ways_row) (v_told_keepers := v_told_keepers) (v_told_hates := v_told_hates) (v_told_sight := v_told_sight) (v_told_sightTold := v_told_sightTold) (v_ways_rocks := v_ways_rocks) (v_ways_many := v_ways_many) (f_ways_keepers := f_ways_keepers) (f_told_haters := f_told_haters) (x1 := x1) (u0 := u1) hu1 _) 1 gX3_calmest_X3_willing rfl rfl rfl hd_X3_willing ⟨Nat.le_of_ble_eq_true rfl, Nat.le_of_ble_eq_true rfl⟩ hP hD hS [0, 1, 2, 3, 4] rfl rfl 0 3 rfl rfl rfl hl.1 rfl (Nat.le_of_ble_eq_true rfl) ⟨Nat.zero_le _, Nat.zero_le _⟩ dX3_calmest_2) hP hD hS [0, 1, 2, 3, 4] [5, 6] rfl rfl rfl (by decide) (fun H locs hP hD hS => ?_)
  have hP : va_P g.1 vwCl [(q_told_flashes, .inl (g.2.1, 6, .inl f_told_flashes)), (q_ways_changed, .inl (g.2.1, 3600, .inl f_ways_changed)), (q_this, .inr (3, [.ref q_told, .ref q_ways])), (q_told, .inr (4, [.int v_told_keepers, .int v_told_hates, .int v_told_sight, .int v_told_sightTold, .ref q_told_flashes, .ref q_told_haters])), (q_ways, .inr (5, [.int v_ways_rocks, .int v_ways_many, .ref q_ways_keepers, .ref q_ways_changed, .ref q_ways_row])), (q_ways_keepers, .inl (g.2.1, 4320, .inl f_ways_keepers)), (q_told_haters, .inl (g.2.1, 6, .inl f_told_haters))] H := hP
  have hD : va_D A [(q_told_flashes, .inl (g.2.1, 6, .inl f_told_flashes)), (q_ways_changed, .inl (g.2.1, 3600, .inl f_ways_changed)), (q_this, .inr (3, [.ref q_told, .ref q_ways])), (q_told, .inr (4, [.int v_told_keepers, .int v_told_hates, .int v_told_sight, .int v_told_sightTold, .ref q_told_flashes, .ref q_told_haters])), (q_ways, .inr (5, [.int v_ways_rocks, .int v_ways_many, .ref q_ways_keepers, .ref q_ways_changed, .ref q_ways_row])), (q_ways_keepers, .inl (g.2.1, 4320, .inl f_ways_keepers)), (q_told_haters, .inl (g.2.1, 6, .inl f_told_haters))] := hD
  refine lv_istore_n (lv' := [(2, .int u1), (0, .ref q_this), (1, .int x1)]) hx hb dX3_calmest_5 rfl hl (by decide) rfl (fun ls hl => ?_)
  refine lv_iconst (v := 0) hx hb dX3_calmest_6 (by decide) ?_
  refine lv_istore_n (lv' := [(3, .int 0), (2, .int u1), (0, .ref q_this), (1, .int x1)]) hx hb dX3_calmest_7 rfl hl (by decide) rfl (fun ls hl => ?_)
  refine lv_aload_n hx hb dX3_calmest_8 rfl (lv_at hl 2 rfl) ?_
  refine lv_iload_n hx hb dX3_calmest_9 rfl (lv_at hl 3 rfl) ?_
  obtain ⟨u2, hu2, hres⟩ := bd hres
  refine k_i C0 (run_V (As := [.int x1]) (rest := []) C0 (c_X3_likes l g (q_this := q_this) (q_told := q_told) (q_ways := q_ways) (q_told_flashes := q_told_flashes) (q_told_haters := q_told_haters) (q_ways_keepers := q_ways_keepers) (q_ways_changed := q_ways_changed) (q_ways_row := q_ways_row) (v_told_keepers := v_told_keepers) (v_told_hates := v_told_hates) (v_told_sight := v_told_sight) (v_told_sightTold := v_told_sightTold) (v_ways_rocks := v_ways_rocks) (v_ways_many := v_ways_many) (f_ways_keepers := f_ways_keepers) (f_told_flashes := f_told_flashes) (x1 := x1) (u0 := u2) hu2 _) 1 gX3_calmest_X3_likes rfl rfl rfl hd_X3_likes ⟨Nat.le_of_ble_eq_true rfl, Nat.le_of_ble_eq_true rfl⟩ hP hD hS [2, 3, 4, 5, 0] rfl rfl 2 3 rfl rfl rfl hl.1 rfl (Nat.le_of_ble_eq_true rfl) ⟨Nat.zero_le _, Nat.zero_le _⟩ dX3_calmest_10) hP hD hS [2, 3, 4, 5, 0] [1, 6] rfl rfl rfl (by decide) (fun H locs hP hD hS => ?_)
  have hP : va_P g.1 vwCl [(q_ways_changed, .inl (g.2.1, 3600, .inl f_ways_changed)), (q_told_haters, .inl (g.2.1, 6, .inl f_told_haters)), (q_this, .inr (3, [.ref q_told, .ref q_ways])), (q_told, .inr (4, [.int v_told_keepers, .int v_told_hates, .int v_told_sight, .int v_told_sightTold, .ref q_told_flashes, .ref q_told_haters])), (q_ways, .inr (5, [.int v_ways_rocks, .int v_ways_many, .ref q_ways_keepers, .ref q_ways_changed, .ref q_ways_row])), (q_ways_keepers, .inl (g.2.1, 4320, .inl f_ways_keepers)), (q_told_flashes, .inl (g.2.1, 6, .inl f_told_flashes))] H := hP
  have hD : va_D A [(q_ways_changed, .inl (g.2.1, 3600, .inl f_ways_changed)), (q_told_haters, .inl (g.2.1, 6, .inl f_told_haters)), (q_this, .inr (3, [.ref q_told, .ref q_ways])), (q_told, .inr (4, [.int v_told_keepers, .int v_told_hates, .int v_told_sight, .int v_told_sightTold, .ref q_told_flashes, .ref q_told_haters])), (q_ways, .inr (5, [.int v_ways_rocks, .int v_ways_many, .ref q_ways_keepers, .ref q_ways_changed, .ref q_ways_row])), (q_ways_keepers, .inl (g.2.1, 4320, .inl f_ways_keepers)), (q_told_flashes, .inl (g.2.1, 6, .inl f_told_flashes))] := hD
  refine lv_istore (lv' := [(4, .int u2), (3, .int 0), (2, .int u1), (0, .ref q_this), (1, .int x1)]) hx hb dX3_calmest_13 hl (by decide) rfl (fun ls hl => ?_)
  refine lv_iconst (v := 1) hx hb dX3_calmest_15 (by decide) ?_
  refine lv_istore (lv' := [(5, .int 1), (4, .int u2), (3, .int 0), (2, .int u1), (0, .ref q_this), (1, .int x1)]) hx hb dX3_calmest_16 hl (by decide) rfl (fun ls hl => ?_)
  have hP : va_P g.1 vwCl [(q_this, .inr (3, [.ref q_told, .ref q_ways])), (q_told, .inr (4, [.int v_told_keepers, .int v_told_hates, .int v_told_sight, .int v_told_sightTold, .ref q_told_flashes, .ref q_told_haters])), (q_ways, .inr (5, [.int v_ways_rocks, .int v_ways_many, .ref q_ways_keepers, .ref q_ways_changed, .ref q_ways_row])), (q_ways_keepers, .inl (g.2.1, 4320, .inl f_ways_keepers)), (q_told_haters, .inl (g.2.1, 6, .inl f_told_haters)), (q_told_flashes, .inl (g.2.1, 6, .inl f_told_flashes)), (q_ways_changed, .inl (g.2.1, 3600, .inl f_ways_changed))] H := hP.sub [2, 3, 4, 5, 1, 6, 0] rfl
  have hD : va_D A [(q_this, .inr (3, [.ref q_told, .ref q_ways])), (q_told, .inr (4, [.int v_told_keepers, .int v_told_hates, .int v_told_sight, .int v_told_sightTold, .ref q_told_flashes, .ref q_told_haters])), (q_ways, .inr (5, [.int v_ways_rocks, .int v_ways_many, .ref q_ways_keepers, .ref q_ways_changed, .ref q_ways_row])), (q_ways_keepers, .inl (g.2.1, 4320, .inl f_ways_keepers)), (q_told_haters, .inl (g.2.1, 6, .inl f_told_haters)), (q_told_flashes, .inl (g.2.1, 6, .inl f_told_flashes)), (q_ways_changed, .inl (g.2.1, 3600, .inl f_ways_changed))] := hD.sub [2, 3, 4, 5, 1, 6, 0] (by decide) rfl
  have hl : lv_has ls 8 [(0, .ref q_this), (1, .int x1), (2, .int u1), (3, .int 0), (4, .int u2), (5, .int 1)] := lv_sub hl [4, 5, 3, 2, 1, 0] rfl
  refine w_X3_calmest_L18 C0 hP hD hS hl hres (fun y16 y17 y18 H locs ls hP hD hS hl hres => ?_)
  refine lv_iload_n hx hb dX3_calmest_100 rfl (lv_at hl 3 rfl) ?_
  cases hres
  exact ret_i C0 hP hD hS dX3_calmest_101
set_option maxHeartbeats 4000000 in
set_option maxRecDepth 100000 in
theorem w_X5_rockOf_L2 {p : Program} {l : Launch} {e : Env} {s : State} {m : MethodId} {args : Array Value} {below : List Frame} {meth : Method} {c : Code} {g : gG} {A : Nat → Prop} {q_this q_keepers q_changed q_row : Nat} {v_rocks : Int32} {v_many : Int32} {f_keepers : Nat → Int32} {x1 : Int32} {x2 : Int32} {u0 : Int32} {k : Int32 → Option (Int32)} {n : Nat} {x3 : Int32} {H : Heap} {locs : List Loc} {ls : Array Slot} (C0 : Cx p s m args meth c RX5 cX5_rockOf 4 wsX5_rockOf (some .int) g A)
    (hP : va_P g.1 vwCl [(q_this, .inr (5, [.int v_rocks, .int v_many, .ref q_keepers, .ref q_changed, .ref q_row])), (q_keepers, .inl (g.2.1, 4320, .inl f_keepers))] H) (hD : va_D A [(q_this, .inr (5, [.int v_rocks, .int v_many, .ref q_keepers, .ref q_changed, .ref q_row])), (q_keepers, .inl (g.2.1, 4320, .inl f_keepers))]) (hS : va_S A s.heap H locs) (hl : lv_has ls 4 [(0, .ref q_this), (1, .int x1), (2, .int x2), (3, .int x3)]) (hres : lp_X5_rockOf_L2 v_rocks f_keepers x1 x2 k n x3 = some u0)
    (K : ∀ (x3 : Int32) (H : Heap) (locs : List Loc) (ls : Array Slot), va_P g.1 vwCl [(q_this, .inr (5, [.int v_rocks, .int v_many, .ref q_keepers, .ref q_changed, .ref q_row])), (q_keepers, .inl (g.2.1, 4320, .inl f_keepers))] H → va_D A [(q_this, .inr (5, [.int v_rocks, .int v_many, .ref q_keepers, .ref q_changed, .ref q_row])), (q_keepers, .inl (g.2.1, 4320, .inl f_keepers))] → va_S A s.heap H locs → lv_has ls 4 [(0, .ref q_this), (1, .int x1), (2, .int x2), (3, .int x3)] → k x3 = some u0 → W p l e rm_X5_rockOf s m args below meth c H locs 0 0 (MQ below (gQi g [(q_this, .inr (5, [.int v_rocks, .int v_many, .ref q_keepers, .ref q_changed, .ref q_row])), (q_keepers, .inl (g.2.1, 4320, .inl f_keepers))] u0 A) args s 0 0 A) (F0 m 28 ls [])) :
    W p l e rm_X5_rockOf s m args below meth c H locs 0 0 (MQ below (gQi g [(q_this, .inr (5, [.int v_rocks, .int v_many, .ref q_keepers, .ref q_changed, .ref q_row])), (q_keepers, .inl (g.2.1, 4320, .inl f_keepers))] u0 A) args s 0 0 A) (F0 m 2 ls []) := by
  obtain ⟨hx, hb, hml, hown, hts, hr, hlk, hN, hK, hF, hA⟩ := id C0
  induction n generalizing x3 H locs ls with
  | zero => cases hres
  | succ n ih =>
    unfold lp_X5_rockOf_L2 at hres
    refine lv_iload_n hx hb dX5_rockOf_2 rfl (lv_at hl 3 rfl) ?_
    refine lv_aload_n hx hb dX5_rockOf_3 rfl (lv_at hl 0 rfl) ?_
    refine va_get (D := g.1) (ci := 5) (v := .int v_rocks) (C := RX5) (T := TX5) (N := 5) hx hb hts in_X5_rockOf_X5 hown hK hP 0 rfl rfl 0 (by decide) (hts (.fieldLink RX5 25 "LightKeepers$Ways" "rocks" "I") (List.mem_of_getElem? (i := 1) rfl)) (fun _ h9 => h9) rfl dX5_rockOf_4 ?_
    refine lv_icmp_ge (tgt := 28) hx hb dX5_rockOf_7 (by decide) (fun c1 => ?_) (fun c1 => ?_)
    · have hres := it_t hres c1
      exact K _ _ _ _ hP hD hS hl hres
    · have hres := it_f hres c1
      refine lv_aload_n hx hb dX5_rockOf_10 rfl (lv_at hl 0 rfl) ?_
      refine lv_iload_n hx hb dX5_rockOf_11 rfl (lv_at hl 1 rfl) ?_
      refine lv_iload_n hx hb dX5_rockOf_12 rfl (lv_at hl 3 rfl) ?_
      obtain ⟨u2, hu2, hres⟩ := bd hres
      refine k_i C0 (run_V (As := [.int x1, .int x3]) (rest := []) C0 (c_X5_who l g (q_this := q_this) (q_keepers := q_keepers) (q_changed := q_changed) (q_row := q_row) (v_rocks := v_rocks) (v_many := v_many) (f_keepers := f_keepers) (x1 := x1) (x2 := x3) (u0 := u2) hu2 _) 2 gX5_rockOf_X5_who rfl rfl rfl hd_X5_who ⟨Nat.le_of_ble_eq_true rfl, Nat.le_of_ble_eq_true rfl⟩ hP hD hS [0, 1] rfl rfl 0 5 rfl rfl rfl hl.1 rfl (Nat.le_of_ble_eq_true rfl) ⟨Nat.zero_le _, Nat.zero_le _⟩ dX5_rockOf_13) hP hD hS [0, 1] [] rfl rfl rfl (by decide) (fun H locs hP hD hS => ?_)
      have hP : va_P g.1 vwCl [(q_this, .inr (5, [.int v_rocks, .int v_many, .ref q_keepers, .ref q_changed, .ref q_row])), (q_keepers, .inl (g.2.1, 4320, .inl f_keepers))] H := hP
      have hD : va_D A [(q_this, .inr (5, [.int v_rocks, .int v_many, .ref q_keepers, .ref q_changed, .ref q_row])), (q_keepers, .inl (g.2.1, 4320, .inl f_keepers))] := hD
      refine lv_iload_n hx hb dX5_rockOf_16 rfl (lv_at hl 2 rfl) ?_
      refine lv_icmp_ne (tgt := 22) hx hb dX5_rockOf_17 (by decide) (fun c3 => ?_) (fun c3 => ?_)
      · have hres := it_f hres c3
        refine lv_iinc (v := (x3 + 1)) (lv' := [(3, .int (x3 + 1)), (0, .ref q_this), (1, .int x1), (2, .int x2)]) hx hb dX5_rockOf_22 hl (k := 3) rfl rfl (by decide) rfl (fun ls hl => ?_)
        refine lv_goto (tgt := 2) hx hb dX5_rockOf_25 (by decide) ?_
        have hl : lv_has ls 4 [(0, .ref q_this), (1, .int x1), (2, .int x2), (3, .int (x3 + 1))] := lv_sub hl [1, 2, 3, 0] rfl
        exact ih hP hS hl hres
      · have hres := it_t hres c3
        refine lv_iload_n hx hb dX5_rockOf_20 rfl (lv_at hl 3 rfl) ?_
        cases hres
        exact ret_i C0 hP hD hS dX5_rockOf_21
set_option maxHeartbeats 4000000 in
set_option maxRecDepth 100000 in
theorem c_X5_rockOf (l : Launch) (g : gG) {q_this q_keepers q_changed q_row : Nat} {v_rocks : Int32} {v_many : Int32} {f_keepers : Nat → Int32} {x1 : Int32} {x2 : Int32} {u0 : Int32} (hres : f_X5_rockOf v_rocks f_keepers x1 x2 = some u0) : Ci l g yX5_rockOf wsX5_rockOf rm_X5_rockOf [.ref q_this, .int x1, .int x2] [(q_this, .inr (5, [.int v_rocks, .int v_many, .ref q_keepers, .ref q_changed, .ref q_row])), (q_keepers, .inl (g.2.1, 4320, .inl f_keepers))] [(q_this, .inr (5, [.int v_rocks, .int v_many, .ref q_keepers, .ref q_changed, .ref q_row])), (q_keepers, .inl (g.2.1, 4320, .inl f_keepers))] u0 := by
  intro sz
  refine gBody (Qf := fun A => gQi g [(q_this, .inr (5, [.int v_rocks, .int v_many, .ref q_keepers, .ref q_changed, .ref q_row])), (q_keepers, .inl (g.2.1, 4320, .inl f_keepers))] u0 A) (cc := cX5_rockOf) (maxL := 4) (ret := (some .int)) (own := RX5) (by decide +kernel) rfl rfl (Nat.le_of_ble_eq_true rfl) ?_
  intro p e s m args below meth c A C0 H hS hD hP ls hl
  obtain ⟨hx, hb, hml, hown, hts, hr, hlk, hN, hK, hF, hA⟩ := id C0
  have hl : lv_has ls 4 [(0, .ref q_this), (1, .int x1), (2, .int x2)] := hl
  unfold f_X5_rockOf at hres
  refine lv_iconst (v := 0) hx hb dX5_rockOf_0 (by decide) ?_
  refine lv_istore_n (lv' := [(3, .int 0), (0, .ref q_this), (1, .int x1), (2, .int x2)]) hx hb dX5_rockOf_1 rfl hl (by decide) rfl (fun ls hl => ?_)
  have hl : lv_has ls 4 [(0, .ref q_this), (1, .int x1), (2, .int x2), (3, .int 0)] := lv_sub hl [1, 2, 3, 0] rfl
  refine w_X5_rockOf_L2 C0 hP hD hS hl hres (fun y4 H locs ls hP hD hS hl hres => ?_)
  refine lv_bipush (v := (-9)) hx hb dX5_rockOf_28 (by decide) ?_
  cases hres
  exact ret_i C0 hP hD hS dX5_rockOf_30
