def f_X0_begin  : Option (Int32 × Int32 × Int32 × Int32 × Int32 × Int32) :=
  some (0, 0, 0, 0, 0, 0)
def f_X0_become (v_a1_way : Int32) (v_a1_moons : Int32) (v_a1_burnt : Int32) (v_a1_out : Int32) (v_a1_known : Int32) (f_a1_past : Nat → Int32) (f_past : Nat → Int32) : Option (Int32 × Int32 × Int32 × Int32 × Int32 × (Nat → Int32)) :=
  some (v_a1_way, v_a1_moons, v_a1_burnt, v_a1_out, v_a1_known, (va_cpy f_a1_past f_past (Int32.toNatClampNeg 0) (Int32.toNatClampNeg 0) (Int32.toNatClampNeg 40)))
def f_X6_put (n_a0 : Nat) (f_a0 : Nat → Int32) (x1 : Int32) (x2 : Int32) : Option ((Nat → Int32)) :=
  if x1 < 0 then
    some f_a0
  else
    if (Int32.ofNat n_a0) ≤ x1 then
      some f_a0
    else
      if x1 < 0 ∨ n_a0 ≤ x1.toNatClampNeg then none else
      some (upd f_a0 x1.toNatClampNeg x2)
def f_X0_remember (v_way : Int32) (v_moons : Int32) (v_burnt : Int32) (v_out : Int32) (v_known : Int32) (f_past : Nat → Int32) : Option (Int32 × (Nat → Int32)) :=
  if v_known < 10 then
    (f_X6_put 40 f_past (v_known * 4) v_way).bind fun u2 =>
    (f_X6_put 40 u2 ((v_known * 4) + 1) v_moons).bind fun u3 =>
    (f_X6_put 40 u3 ((v_known * 4) + 2) v_burnt).bind fun u4 =>
    (f_X6_put 40 u4 ((v_known * 4) + 3) v_out).bind fun u5 =>
    some ((v_known + 1), u5)
  else
    (f_X6_put 40 (va_cpy f_past f_past (Int32.toNatClampNeg 4) (Int32.toNatClampNeg 0) (Int32.toNatClampNeg 36)) (9 * 4) v_way).bind fun u6 =>
    (f_X6_put 40 u6 ((9 * 4) + 1) v_moons).bind fun u7 =>
    (f_X6_put 40 u7 ((9 * 4) + 2) v_burnt).bind fun u8 =>
    (f_X6_put 40 u8 ((9 * 4) + 3) v_out).bind fun u9 =>
    some ((9 + 1), u9)
def f_X6_item (n_a0 : Nat) (f_a0 : Nat → Int32) (x1 : Int32) : Option (Int32) :=
  if x1 < 0 then
    some (-9)
  else
    if (Int32.ofNat n_a0) ≤ x1 then
      some (-9)
    else
      if x1 < 0 ∨ n_a0 ≤ x1.toNatClampNeg then none else
      some (f_a0 x1.toNatClampNeg)
def f_X0_recall (v_way : Int32) (v_moons : Int32) (v_burnt : Int32) (v_out : Int32) (v_known : Int32) (f_past : Nat → Int32) : Option (Int32 × Int32 × Int32 × Int32 × Int32 × Int32) :=
  if 0 < v_known then
    (f_X6_item 40 f_past ((v_known - 1) * 4)).bind fun u2 =>
    (f_X6_item 40 f_past (((v_known - 1) * 4) + 1)).bind fun u3 =>
    (f_X6_item 40 f_past (((v_known - 1) * 4) + 2)).bind fun u4 =>
    (f_X6_item 40 f_past (((v_known - 1) * 4) + 3)).bind fun u5 =>
    some (1, u2, u3, u4, u5, (v_known - 1))
  else
    some (0, v_way, v_moons, v_burnt, v_out, v_known)
def f_X1_add (v_length : Int32) (f_bytes : Nat → Int32) (x1 : Int32) : Option (Int32 × Int32 × (Nat → Int32)) :=
  if v_length < 120 then
    (f_X6_put 120 f_bytes v_length x1).bind fun u2 =>
    some (1, (v_length + 1), u2)
  else
    some (0, v_length, f_bytes)
def f_X1_isDigit (x0 : Int32) : Option (Int32) :=
  if x0 < 48 then
    some 0
  else
    if 57 < x0 then
      some 0
    else
      some 1
def f_X1_isLetter (x0 : Int32) : Option (Int32) :=
  if x0 < 97 then
    some 0
  else
    if 122 < x0 then
      some 0
    else
      some 1
def lp_X1_nextDigits_L8 (v_length : Int32) (f_bytes : Nat → Int32) (k : Int32 → Int32 → Option (Int32 × Int32 × Int32)) : Nat → Int32 → Int32 → Option (Int32 × Int32 × Int32)
  | 0, _, _ => none
  | n + 1, v_end, v_value =>
    if v_length ≤ v_end then
      k v_end v_value
    else
      (f_X6_item 120 f_bytes v_end).bind fun u2 =>
      (f_X1_isDigit u2).bind fun u3 =>
      if u3 = 0 then
        k v_end v_value
      else
        (f_X6_item 120 f_bytes v_end).bind fun u5 =>
        lp_X1_nextDigits_L8 v_length f_bytes k n (v_end + 1) (if (((v_value * 10) + u5) - 48) < 100 then (((v_value * 10) + u5) - 48) else 100)
def f_X1_nextDigits (v_length : Int32) (v_place : Int32) (v_end : Int32) (f_bytes : Nat → Int32) (x1 : Int32) : Option (Int32 × Int32 × Int32) :=
  lp_X1_nextDigits_L8 v_length f_bytes (fun y6 y7 =>
      if x1 = 48 then
        if (y6 - v_place) ≤ 1 then
          if 99 < y7 then
            some (y6, 4, y7)
          else
            some (y6, 2, y7)
        else
          if 99 < y7 then
            some (y6, 4, y7)
          else
            some (y6, 4, y7)
      else
        if 99 < y7 then
          some (y6, 4, y7)
        else
          some (y6, 2, y7))
    FU v_end (x1 - 48)
def lp_X1_nextLetters_L0 (v_length : Int32) (f_bytes : Nat → Int32) (k : Int32 → Option (Int32 × Int32 × Int32)) : Nat → Int32 → Option (Int32 × Int32 × Int32)
  | 0, _ => none
  | n + 1, v_end =>
    if v_length ≤ v_end then
      k v_end
    else
      (f_X6_item 120 f_bytes v_end).bind fun u2 =>
      (f_X1_isLetter u2).bind fun u3 =>
      if u3 = 0 then
        k v_end
      else
        lp_X1_nextLetters_L0 v_length f_bytes k n (v_end + 1)
def f_X1_nextLetters (v_length : Int32) (v_place : Int32) (v_end : Int32) (f_bytes : Nat → Int32) (x1 : Int32) : Option (Int32 × Int32 × Int32) :=
  lp_X1_nextLetters_L0 v_length f_bytes (fun y5 =>
      if (y5 - v_place) = 1 then
        some (y5, 1, x1)
      else
        some (y5, 4, x1))
    FU v_end
def lp_X1_next_L8 (v_length : Int32) (f_bytes : Nat → Int32) (k : Int32 → Option (Int32 × Int32 × Int32 × Int32)) : Nat → Int32 → Option (Int32 × Int32 × Int32 × Int32)
  | 0, _ => none
  | n + 1, v_place =>
    if v_length ≤ v_place then
      k v_place
    else
      (f_X6_item 120 f_bytes v_place).bind fun u2 =>
      if u2 = 32 then
        lp_X1_next_L8 v_length f_bytes k n (v_place + 1)
      else
        k v_place
def f_X1_next (v_length : Int32) (v_end : Int32) (v_value : Int32) (f_bytes : Nat → Int32) : Option (Int32 × Int32 × Int32 × Int32) :=
  lp_X1_next_L8 v_length f_bytes (fun y4 =>
      (f_X6_item 120 f_bytes y4).bind fun u5 =>
      if y4 < v_length then
        (f_X1_isLetter u5).bind fun u7 =>
        if u7 = 0 then
          (f_X1_isDigit u5).bind fun u9 =>
          if u9 = 0 then
            if u5 = 59 then
              some (y4, (y4 + 1), 3, v_value)
            else
              some (y4, (y4 + 1), 4, v_value)
          else
            (f_X1_nextDigits v_length y4 (y4 + 1) f_bytes u5).bind fun u12 =>
            some (y4, u12.1, u12.2.1, u12.2.2)
        else
          (f_X1_nextLetters v_length y4 (y4 + 1) f_bytes u5).bind fun u13 =>
          some (y4, u13.1, u13.2.1, u13.2.2)
      else
        some (y4, (y4 + 1), 0, v_value))
    FU v_end
def f_X1_readNumber (v_length : Int32) (v_end : Int32) (v_value : Int32) (f_bytes : Nat → Int32) (x1 : Int32) (x2 : Int32) : Option (Int32 × Int32 × Int32 × Int32 × Int32) :=
  (f_X1_next v_length v_end v_value f_bytes).bind fun u1 =>
  if u1.2.2.1 = 2 then
    if u1.2.2.2 < x1 then
      some (0, u1.1, u1.2.1, u1.2.2.1, u1.2.2.2)
    else
      if x2 < u1.2.2.2 then
        some (0, u1.1, u1.2.1, u1.2.2.1, u1.2.2.2)
      else
        some (1, u1.1, u1.2.1, u1.2.2.1, u1.2.2.2)
  else
    some (0, u1.1, u1.2.1, u1.2.2.1, u1.2.2.2)
def f_X1_readSemicolon (v_length : Int32) (v_end : Int32) (v_value : Int32) (f_bytes : Nat → Int32) : Option (Int32 × Int32 × Int32 × Int32 × Int32) :=
  (f_X1_next v_length v_end v_value f_bytes).bind fun u1 =>
  if u1.2.2.1 = 3 then
    some (1, u1.1, u1.2.1, u1.2.2.1, u1.2.2.2)
  else
    some (0, u1.1, u1.2.1, u1.2.2.1, u1.2.2.2)
def f_X4_hatersOf (f_haters : Nat → Int32) (x1 : Int32) : Option (Int32) :=
  if x1 < 0 then
    some 0
  else
    if 6 ≤ x1 then
      some 0
    else
      if x1 < 0 ∨ 6 ≤ x1.toNatClampNeg then none else
      some (f_haters x1.toNatClampNeg)
def f_X4_addHate (v_hates : Int32) (f_haters : Nat → Int32) (x1 : Int32) (x2 : Int32) : Option (Int32 × (Nat → Int32)) :=
  (f_X4_hatersOf f_haters x1).bind fun u1 =>
  (f_X6_put 6 f_haters x1 (u1 ||| (1 <<< (x2 &&& 31)))).bind fun u2 =>
  (f_X4_hatersOf u2 x2).bind fun u3 =>
  (f_X6_put 6 u2 x2 (u3 ||| (1 <<< (x1 &&& 31)))).bind fun u4 =>
  some ((v_hates + 1), u4)
def f_X1_readHate (v_length : Int32) (v_place : Int32) (v_end : Int32) (v_token : Int32) (v_value : Int32) (v_a1_keepers : Int32) (v_a1_hates : Int32) (f_bytes : Nat → Int32) (f_a1_haters : Nat → Int32) : Option (Int32 × Int32 × Int32 × Int32 × Int32 × Int32 × (Nat → Int32)) :=
  if 8 ≤ v_a1_hates then
    some (0, v_place, v_end, v_token, v_value, v_a1_hates, f_a1_haters)
  else
    (f_X1_readNumber v_length v_end v_value f_bytes 0 (v_a1_keepers - 1)).bind fun u2 =>
    if u2.1 = 0 then
      some (0, u2.2.1, u2.2.2.1, u2.2.2.2.1, u2.2.2.2.2, v_a1_hates, f_a1_haters)
    else
      (f_X1_readNumber v_length u2.2.2.1 u2.2.2.2.2 f_bytes 0 (v_a1_keepers - 1)).bind fun u4 =>
      if u4.1 = 0 then
        some (0, u4.2.1, u4.2.2.1, u4.2.2.2.1, u4.2.2.2.2, v_a1_hates, f_a1_haters)
      else
        if u4.2.2.2.2 = u2.2.2.2.2 then
          some (0, u4.2.1, u4.2.2.1, u4.2.2.2.1, u4.2.2.2.2, v_a1_hates, f_a1_haters)
        else
          (f_X4_addHate v_a1_hates f_a1_haters u2.2.2.2.2 u4.2.2.2.2).bind fun u7 =>
          (f_X1_readSemicolon v_length u4.2.2.1 u4.2.2.2.2 f_bytes).bind fun u8 =>
          if ¬ (u8.1 = 0 ∨ u8.1 = 1) then none else
          some (u8.1, u8.2.1, u8.2.2.1, u8.2.2.2.1, u8.2.2.2.2, u7.1, u7.2)
def f_X4_addKeeper (v_keepers : Int32) (f_flashes : Nat → Int32) (x1 : Int32) : Option (Int32 × (Nat → Int32)) :=
  (f_X6_put 6 f_flashes v_keepers x1).bind fun u1 =>
  some ((v_keepers + 1), u1)
def f_X1_readKeeper (v_length : Int32) (v_place : Int32) (v_end : Int32) (v_token : Int32) (v_value : Int32) (v_a1_keepers : Int32) (f_bytes : Nat → Int32) (f_a1_flashes : Nat → Int32) : Option (Int32 × Int32 × Int32 × Int32 × Int32 × Int32 × (Nat → Int32)) :=
  if 6 ≤ v_a1_keepers then
    some (0, v_place, v_end, v_token, v_value, v_a1_keepers, f_a1_flashes)
  else
    (f_X1_readNumber v_length v_end v_value f_bytes 1 9).bind fun u2 =>
    if u2.1 = 0 then
      some (0, u2.2.1, u2.2.2.1, u2.2.2.2.1, u2.2.2.2.2, v_a1_keepers, f_a1_flashes)
    else
      (f_X4_addKeeper v_a1_keepers f_a1_flashes u2.2.2.2.2).bind fun u4 =>
      (f_X1_readSemicolon v_length u2.2.2.1 u2.2.2.2.2 f_bytes).bind fun u5 =>
      if ¬ (u5.1 = 0 ∨ u5.1 = 1) then none else
      some (u5.1, u5.2.1, u5.2.2.1, u5.2.2.2.1, u5.2.2.2.2, u4.1, u4.2)
def f_X4_tellSight (x1 : Int32) : Option (Int32 × Int32) :=
  some (x1, 1)
def f_X1_readSight (v_length : Int32) (v_place : Int32) (v_end : Int32) (v_token : Int32) (v_value : Int32) (v_a1_sight : Int32) (v_a1_sightTold : Int32) (f_bytes : Nat → Int32) : Option (Int32 × Int32 × Int32 × Int32 × Int32 × Int32 × Int32) :=
  if v_a1_sightTold = 0 then
    (f_X1_readNumber v_length v_end v_value f_bytes 0 5).bind fun u2 =>
    if u2.1 = 0 then
      some (0, u2.2.1, u2.2.2.1, u2.2.2.2.1, u2.2.2.2.2, v_a1_sight, v_a1_sightTold)
    else
      (f_X4_tellSight u2.2.2.2.2).bind fun u4 =>
      (f_X1_readSemicolon v_length u2.2.2.1 u2.2.2.2.2 f_bytes).bind fun u5 =>
      if ¬ (u5.1 = 0 ∨ u5.1 = 1) then none else
      some (u5.1, u5.2.1, u5.2.2.1, u5.2.2.2.1, u5.2.2.2.2, u4.1, u4.2)
  else
    some (0, v_place, v_end, v_token, v_value, v_a1_sight, v_a1_sightTold)
def lp_J7_fill_53178_L5 (n_a0 : Nat) (x1 : Int32) (x3 : Int32) (k : Int32 → (Nat → Int32) → Option ((Nat → Int32))) : Nat → Int32 → (Nat → Int32) → Option ((Nat → Int32))
  | 0, _, _ => none
  | n + 1, x2, f_a0 =>
    if x3 ≤ x2 then
      k x2 f_a0
    else
      if x2 < 0 ∨ n_a0 ≤ x2.toNatClampNeg then none else
      lp_J7_fill_53178_L5 n_a0 x1 x3 k n (x2 + 1) (upd f_a0 x2.toNatClampNeg x1)
def f_J7_fill_53178 (n_a0 : Nat) (f_a0 : Nat → Int32) (x1 : Int32) : Option ((Nat → Int32)) :=
  lp_J7_fill_53178_L5 n_a0 x1 (Int32.ofNat n_a0) (fun y3 y4 =>
      some y4)
    FU 0 f_a0
def f_X4_begin (f_haters : Nat → Int32) : Option (Int32 × Int32 × Int32 × Int32 × (Nat → Int32)) :=
  (f_J7_fill_53178 6 f_haters 0).bind fun u1 =>
  some (0, 0, 1, 0, u1)
def lp_X1_read_L11 (v_length : Int32) (f_bytes : Nat → Int32) (k : Int32 → Int32 → Int32 → Int32 → Int32 → Int32 → Int32 → Int32 → Int32 → (Nat → Int32) → (Nat → Int32) → Option (Int32 × Int32 × Int32 × Int32 × Int32 × Int32 × Int32 × Int32 × Int32 × (Nat → Int32) × (Nat → Int32))) : Nat → Int32 → Int32 → Int32 → Int32 → Int32 → Int32 → Int32 → Int32 → Int32 → (Nat → Int32) → (Nat → Int32) → Option (Int32 × Int32 × Int32 × Int32 × Int32 × Int32 × Int32 × Int32 × Int32 × (Nat → Int32) × (Nat → Int32))
  | 0, _, _, _, _, _, _, _, _, _, _, _ => none
  | n + 1, x2, v_place, v_end, v_token, v_value, v_a1_keepers, v_a1_hates, v_a1_sight, v_a1_sightTold, f_a1_haters, f_a1_flashes =>
    if 120 < x2 then
      k x2 v_place v_end v_token v_value v_a1_keepers v_a1_hates v_a1_sight v_a1_sightTold f_a1_haters f_a1_flashes
    else
      (f_X1_next v_length v_end v_value f_bytes).bind fun u3 =>
      if u3.2.2.1 = 0 then
        some (x2, u3.1, u3.2.1, u3.2.2.1, u3.2.2.2, v_a1_keepers, v_a1_hates, v_a1_sight, v_a1_sightTold, f_a1_haters, f_a1_flashes)
      else
        if u3.2.2.1 = 1 then
          if u3.2.2.2 = 107 then
            (f_X1_readKeeper v_length u3.1 u3.2.1 u3.2.2.1 u3.2.2.2 v_a1_keepers f_bytes f_a1_flashes).bind fun u13 =>
            if u13.1 = 0 then
              some ((-9), u13.2.1, u13.2.2.1, u13.2.2.2.1, u13.2.2.2.2.1, u13.2.2.2.2.2.1, v_a1_hates, v_a1_sight, v_a1_sightTold, f_a1_haters, u13.2.2.2.2.2.2)
            else
              lp_X1_read_L11 v_length f_bytes k n (x2 + 1) u13.2.1 u13.2.2.1 u13.2.2.2.1 u13.2.2.2.2.1 u13.2.2.2.2.2.1 v_a1_hates v_a1_sight v_a1_sightTold f_a1_haters u13.2.2.2.2.2.2
          else
            if u3.2.2.2 = 104 then
              (f_X1_readHate v_length u3.1 u3.2.1 u3.2.2.1 u3.2.2.2 v_a1_keepers v_a1_hates f_bytes f_a1_haters).bind fun u11 =>
              if u11.1 = 0 then
                some ((-9), u11.2.1, u11.2.2.1, u11.2.2.2.1, u11.2.2.2.2.1, v_a1_keepers, u11.2.2.2.2.2.1, v_a1_sight, v_a1_sightTold, u11.2.2.2.2.2.2, f_a1_flashes)
              else
                lp_X1_read_L11 v_length f_bytes k n (x2 + 1) u11.2.1 u11.2.2.1 u11.2.2.2.1 u11.2.2.2.2.1 v_a1_keepers u11.2.2.2.2.2.1 v_a1_sight v_a1_sightTold u11.2.2.2.2.2.2 f_a1_flashes
            else
              if u3.2.2.2 = 115 then
                (f_X1_readSight v_length u3.1 u3.2.1 u3.2.2.1 u3.2.2.2 v_a1_sight v_a1_sightTold f_bytes).bind fun u9 =>
                if u9.1 = 0 then
                  some ((-9), u9.2.1, u9.2.2.1, u9.2.2.2.1, u9.2.2.2.2.1, v_a1_keepers, v_a1_hates, u9.2.2.2.2.2.1, u9.2.2.2.2.2.2, f_a1_haters, f_a1_flashes)
                else
                  lp_X1_read_L11 v_length f_bytes k n (x2 + 1) u9.2.1 u9.2.2.1 u9.2.2.2.1 u9.2.2.2.2.1 v_a1_keepers v_a1_hates u9.2.2.2.2.2.1 u9.2.2.2.2.2.2 f_a1_haters f_a1_flashes
              else
                some ((-9), u3.1, u3.2.1, u3.2.2.1, u3.2.2.2, v_a1_keepers, v_a1_hates, v_a1_sight, v_a1_sightTold, f_a1_haters, f_a1_flashes)
        else
          some ((-9), u3.1, u3.2.1, u3.2.2.1, u3.2.2.2, v_a1_keepers, v_a1_hates, v_a1_sight, v_a1_sightTold, f_a1_haters, f_a1_flashes)
def f_X1_read (v_length : Int32) (v_place : Int32) (v_token : Int32) (v_value : Int32) (f_a1_haters : Nat → Int32) (f_bytes : Nat → Int32) (f_a1_flashes : Nat → Int32) : Option (Int32 × Int32 × Int32 × Int32 × Int32 × Int32 × Int32 × Int32 × Int32 × (Nat → Int32) × (Nat → Int32)) :=
  (f_X4_begin f_a1_haters).bind fun u1 =>
  lp_X1_read_L11 v_length f_bytes (fun y15 y16 y17 y18 y19 y20 y21 y22 y23 y24 y25 =>
      some ((-9), y16, y17, y18, y19, y20, y21, y22, y23, y24, y25))
    FU 0 v_place 0 v_token v_value u1.1 u1.2.1 u1.2.2.1 u1.2.2.2.1 u1.2.2.2.2 f_a1_flashes
def f_X2_renew  : Option (Int32) :=
  some (-9)
def f_X2_enter (v_queued : Int32) (f_moons : Nat → Int32) (f_firsts : Nat → Int32) (f_queue : Nat → Int32) (x1 : Int32) (x2 : Int32) (x3 : Int32) : Option (Int32 × (Nat → Int32) × (Nat → Int32) × (Nat → Int32)) :=
  (f_X6_put 720 f_moons x1 x2).bind fun u1 =>
  (f_X6_put 720 f_firsts x1 x3).bind fun u2 =>
  (f_X6_put 720 f_queue v_queued x1).bind fun u3 =>
  some ((v_queued + 1), u1, u2, u3)
def f_X4_flashOf (f_flashes : Nat → Int32) (x1 : Int32) : Option (Int32) :=
  if x1 < 0 then
    some 0
  else
    if 6 ≤ x1 then
      some 0
    else
      if x1 < 0 ∨ 6 ≤ x1.toNatClampNeg then none else
      some (f_flashes x1.toNatClampNeg)
def f_X5_who (f_keepers : Nat → Int32) (x1 : Int32) (x2 : Int32) : Option (Int32) :=
  if x1 < 0 then
    some (-9)
  else
    if 720 ≤ x1 then
      some (-9)
    else
      if x2 < 0 then
        some (-9)
      else
        if x2 < 6 then
          if ((x1 * 6) + x2) < 0 ∨ 4320 ≤ ((x1 * 6) + x2).toNatClampNeg then none else
          some (f_keepers ((x1 * 6) + x2).toNatClampNeg)
        else
          some (-9)
def f_X3_flashAt (f_ways_keepers : Nat → Int32) (f_told_flashes : Nat → Int32) (x1 : Int32) (x2 : Int32) : Option (Int32) :=
  (f_X5_who f_ways_keepers x1 x2).bind fun u1 =>
  (f_X4_flashOf f_told_flashes u1).bind fun u2 =>
  some u2
def lp_X3_likes_L51 (f_ways_keepers : Nat → Int32) (f_told_flashes : Nat → Int32) (x1 : Int32) (x4 : Int32) (x5 : Int32) (k : Int32 → Int32 → Option (Int32)) : Nat → Int32 → Int32 → Option (Int32)
  | 0, _, _ => none
  | n + 1, x2, x6 =>
    if x5 < x6 then
      k x2 x6
    else
      (f_X3_flashAt f_ways_keepers f_told_flashes x1 x6).bind fun u4 =>
      if u4 = x4 then
        lp_X3_likes_L51 f_ways_keepers f_told_flashes x1 x4 x5 k n (x2 + 1) (x6 + 1)
      else
        lp_X3_likes_L51 f_ways_keepers f_told_flashes x1 x4 x5 k n x2 (x6 + 1)
def lp_X3_likes_L4 (v_told_keepers : Int32) (v_told_sight : Int32) (f_ways_keepers : Nat → Int32) (f_told_flashes : Nat → Int32) (x1 : Int32) (k : Int32 → Int32 → Option (Int32)) : Nat → Int32 → Int32 → Option (Int32)
  | 0, _, _ => none
  | n + 1, x2, x3 =>
    if v_told_keepers ≤ x3 then
      k x2 x3
    else
      (f_X3_flashAt f_ways_keepers f_told_flashes x1 x3).bind fun u2 =>
      lp_X3_likes_L51 f_ways_keepers f_told_flashes x1 u2 (if (v_told_keepers - 1) < (x3 + v_told_sight) then (v_told_keepers - 1) else (x3 + v_told_sight)) (fun y6 y7 =>
          lp_X3_likes_L4 v_told_keepers v_told_sight f_ways_keepers f_told_flashes x1 k n y6 (x3 + 1))
        FU x2 (x3 + 1)
def f_X3_likes (v_told_keepers : Int32) (v_told_sight : Int32) (f_ways_keepers : Nat → Int32) (f_told_flashes : Nat → Int32) (x1 : Int32) : Option (Int32) :=
  lp_X3_likes_L4 v_told_keepers v_told_sight f_ways_keepers f_told_flashes x1 (fun y8 y9 =>
      some y8)
    FU 0 0
def f_X2_reach (v_safe : Int32) (v_queued : Int32) (f_moons : Nat → Int32) (v_shore_told_keepers : Int32) (v_shore_told_sight : Int32) (f_shore_ways_keepers : Nat → Int32) (f_shore_told_flashes : Nat → Int32) (f_firsts : Nat → Int32) (f_queue : Nat → Int32) (x1 : Int32) (x2 : Int32) (x3 : Int32) : Option (Int32 × (Nat → Int32) × (Nat → Int32) × (Nat → Int32)) :=
  (f_X6_item 720 f_moons x1).bind fun u1 =>
  if u1 = (-9) then
    if v_safe = 0 then
      (f_X2_enter v_queued f_moons f_firsts f_queue x1 x2 x3).bind fun u4 =>
      some (u4.1, u4.2.1, u4.2.2.1, u4.2.2.2)
    else
      (f_X3_likes v_shore_told_keepers v_shore_told_sight f_shore_ways_keepers f_shore_told_flashes x1).bind fun u5 =>
      if u5 ≤ 0 then
        (f_X2_enter v_queued f_moons f_firsts f_queue x1 x2 x3).bind fun u7 =>
        some (u7.1, u7.2.1, u7.2.2.1, u7.2.2.2)
      else
        (f_X6_put 720 f_moons x1 (-8)).bind fun u8 =>
        some (v_queued, u8, f_firsts, f_queue)
  else
    some (v_queued, f_moons, f_firsts, f_queue)
def f_X5_changedAt (f_changed : Nat → Int32) (x1 : Int32) (x2 : Int32) : Option (Int32) :=
  if x1 < 0 then
    some x1
  else
    if 720 ≤ x1 then
      some x1
    else
      if x2 < 0 then
        some x1
      else
        if x2 < 5 then
          if ((x1 * 5) + x2) < 0 ∨ 3600 ≤ ((x1 * 5) + x2).toNatClampNeg then none else
          some (f_changed ((x1 * 5) + x2).toNatClampNeg)
        else
          some x1
def lp_X3_after_L5 (f_ways_changed : Nat → Int32) (x2 : Int32) (k : Int32 → Int32 → Option (Int32)) : Nat → Int32 → Int32 → Option (Int32)
  | 0, _, _ => none
  | n + 1, x3, x4 =>
    if 5 ≤ x4 then
      k x3 x4
    else
      if ((x2 >>> (x4 &&& 31)) &&& 1) = 1 then
        (f_X5_changedAt f_ways_changed x3 x4).bind fun u3 =>
        lp_X3_after_L5 f_ways_changed x2 k n u3 (x4 + 1)
      else
        lp_X3_after_L5 f_ways_changed x2 k n x3 (x4 + 1)
def f_X3_after (f_ways_changed : Nat → Int32) (x1 : Int32) (x2 : Int32) : Option (Int32) :=
  lp_X3_after_L5 f_ways_changed x2 (fun y4 y5 =>
      some y4)
    FU x1 0
def f_X3_allows (x0 : Int32) (x1 : Int32) : Option (Int32) :=
  if (x1 &&& (x1 >>> (1 &&& 31))) = 0 then
    if (x1 &&& (x0 ^^^ (-1))) = 0 then
      some 1
    else
      some 0
  else
    some 0
def f_X3_changes (v_told_keepers : Int32) : Option (Int32) :=
  if v_told_keepers ≤ 1 then
    some 1
  else
    some (1 <<< ((v_told_keepers - 1) &&& 31))
def lp_X3_willing_L4 (v_told_keepers : Int32) (f_ways_keepers : Nat → Int32) (f_told_haters : Nat → Int32) (x1 : Int32) (k : Int32 → Int32 → Option (Int32)) : Nat → Int32 → Int32 → Option (Int32)
  | 0, _, _ => none
  | n + 1, x2, x3 =>
    if v_told_keepers ≤ (x3 + 1) then
      k x2 x3
    else
      (f_X5_who f_ways_keepers x1 x3).bind fun u2 =>
      (f_X4_hatersOf f_told_haters u2).bind fun u3 =>
      (f_X5_who f_ways_keepers x1 (x3 + 1)).bind fun u4 =>
      if ((u3 >>> (u4 &&& 31)) &&& 1) = 0 then
        lp_X3_willing_L4 v_told_keepers f_ways_keepers f_told_haters x1 k n (x2 ||| (1 <<< (x3 &&& 31))) (x3 + 1)
      else
        lp_X3_willing_L4 v_told_keepers f_ways_keepers f_told_haters x1 k n x2 (x3 + 1)
def f_X3_willing (v_told_keepers : Int32) (f_ways_keepers : Nat → Int32) (f_told_haters : Nat → Int32) (x1 : Int32) : Option (Int32) :=
  lp_X3_willing_L4 v_told_keepers f_ways_keepers f_told_haters x1 (fun y6 y7 =>
      some y6)
    FU 0 0
def lp_X2_step_L23 (v_safe : Int32) (v_shore_told_keepers : Int32) (v_shore_told_sight : Int32) (f_shore_ways_keepers : Nat → Int32) (f_shore_ways_changed : Nat → Int32) (f_shore_told_flashes : Nat → Int32) (x1 : Int32) (x2 : Int32) (x3 : Int32) (k : Int32 → Int32 → (Nat → Int32) → (Nat → Int32) → (Nat → Int32) → Option (Int32 × (Nat → Int32) × (Nat → Int32) × (Nat → Int32))) : Nat → Int32 → Int32 → (Nat → Int32) → (Nat → Int32) → (Nat → Int32) → Option (Int32 × (Nat → Int32) × (Nat → Int32) × (Nat → Int32))
  | 0, _, _, _, _, _ => none
  | n + 1, x4, v_queued, f_moons, f_firsts, f_queue =>
    (f_X3_changes v_shore_told_keepers).bind fun u3 =>
    if u3 ≤ x4 then
      k x4 v_queued f_moons f_firsts f_queue
    else
      (f_X3_allows x2 x4).bind fun u5 =>
      if u5 = 0 then
        lp_X2_step_L23 v_safe v_shore_told_keepers v_shore_told_sight f_shore_ways_keepers f_shore_ways_changed f_shore_told_flashes x1 x2 x3 k n (x4 + 1) v_queued f_moons f_firsts f_queue
      else
        if x3 = 1 then
          (f_X3_after f_shore_ways_changed x1 x4).bind fun u11 =>
          (f_X2_reach v_safe v_queued f_moons v_shore_told_keepers v_shore_told_sight f_shore_ways_keepers f_shore_told_flashes f_firsts f_queue u11 x3 x4).bind fun u12 =>
          lp_X2_step_L23 v_safe v_shore_told_keepers v_shore_told_sight f_shore_ways_keepers f_shore_ways_changed f_shore_told_flashes x1 x2 x3 k n (x4 + 1) u12.1 u12.2.1 u12.2.2.1 u12.2.2.2
        else
          (f_X6_item 720 f_firsts x1).bind fun u8 =>
          (f_X3_after f_shore_ways_changed x1 x4).bind fun u9 =>
          (f_X2_reach v_safe v_queued f_moons v_shore_told_keepers v_shore_told_sight f_shore_ways_keepers f_shore_told_flashes f_firsts f_queue u9 x3 u8).bind fun u10 =>
          lp_X2_step_L23 v_safe v_shore_told_keepers v_shore_told_sight f_shore_ways_keepers f_shore_ways_changed f_shore_told_flashes x1 x2 x3 k n (x4 + 1) u10.1 u10.2.1 u10.2.2.1 u10.2.2.2
def f_X2_step (v_safe : Int32) (v_queued : Int32) (v_shore_told_keepers : Int32) (v_shore_told_sight : Int32) (f_shore_ways_keepers : Nat → Int32) (f_shore_told_haters : Nat → Int32) (f_moons : Nat → Int32) (f_shore_ways_changed : Nat → Int32) (f_shore_told_flashes : Nat → Int32) (f_firsts : Nat → Int32) (f_queue : Nat → Int32) (x1 : Int32) : Option (Int32 × (Nat → Int32) × (Nat → Int32) × (Nat → Int32)) :=
  (f_X3_willing v_shore_told_keepers f_shore_ways_keepers f_shore_told_haters x1).bind fun u1 =>
  (f_X6_item 720 f_moons x1).bind fun u2 =>
  lp_X2_step_L23 v_safe v_shore_told_keepers v_shore_told_sight f_shore_ways_keepers f_shore_ways_changed f_shore_told_flashes x1 u1 (u2 + 1) (fun y13 y14 y15 y16 y17 =>
      some (y14, y15, y16, y17))
    FU 1 v_queued f_moons f_firsts f_queue
def lp_X2_spread_L37 (v_safe : Int32) (v_shore_told_keepers : Int32) (v_shore_told_sight : Int32) (f_shore_ways_keepers : Nat → Int32) (f_shore_told_haters : Nat → Int32) (f_shore_ways_changed : Nat → Int32) (f_shore_told_flashes : Nat → Int32) (k : Int32 → Int32 → (Nat → Int32) → (Nat → Int32) → (Nat → Int32) → Option (Int32 × Int32 × (Nat → Int32) × (Nat → Int32) × (Nat → Int32))) : Nat → Int32 → Int32 → (Nat → Int32) → (Nat → Int32) → (Nat → Int32) → Option (Int32 × Int32 × (Nat → Int32) × (Nat → Int32) × (Nat → Int32))
  | 0, _, _, _, _, _ => none
  | n + 1, x2, v_queued, f_moons, f_firsts, f_queue =>
    if v_queued ≤ x2 then
      k x2 v_queued f_moons f_firsts f_queue
    else
      if 720 ≤ x2 then
        k x2 v_queued f_moons f_firsts f_queue
      else
        (f_X6_item 720 f_queue x2).bind fun u6 =>
        (f_X2_step v_safe v_queued v_shore_told_keepers v_shore_told_sight f_shore_ways_keepers f_shore_told_haters f_moons f_shore_ways_changed f_shore_told_flashes f_firsts f_queue u6).bind fun u7 =>
        lp_X2_spread_L37 v_safe v_shore_told_keepers v_shore_told_sight f_shore_ways_keepers f_shore_told_haters f_shore_ways_changed f_shore_told_flashes k n (x2 + 1) u7.1 u7.2.1 u7.2.2.1 u7.2.2.2
def f_X2_spread (v_safe : Int32) (v_queued : Int32) (v_from : Int32) (f_moons : Nat → Int32) (f_firsts : Nat → Int32) (f_queue : Nat → Int32) (v_shore_told_keepers : Int32) (v_shore_told_sight : Int32) (f_shore_ways_keepers : Nat → Int32) (f_shore_told_haters : Nat → Int32) (f_shore_ways_changed : Nat → Int32) (f_shore_told_flashes : Nat → Int32) (x1 : Int32) : Option (Int32 × Int32 × (Nat → Int32) × (Nat → Int32) × (Nat → Int32)) :=
  if x1 = v_from then
    some (v_queued, v_from, f_moons, f_firsts, f_queue)
  else
    (f_J7_fill_53178 720 f_moons (-9)).bind fun u2 =>
    (f_X2_enter 0 u2 f_firsts f_queue x1 0 0).bind fun u3 =>
    lp_X2_spread_L37 v_safe v_shore_told_keepers v_shore_told_sight f_shore_ways_keepers f_shore_told_haters f_shore_ways_changed f_shore_told_flashes (fun y8 y9 y10 y11 y12 =>
        some (y9, x1, y10, y11, y12))
      FU 0 u3.1 u3.2.1 u3.2.2.1 u3.2.2.2
def f_X2_moonsTo (f_moons : Nat → Int32) (x1 : Int32) : Option (Int32) :=
  (f_X6_item 720 f_moons x1).bind fun u1 =>
  if u1 < 0 then
    some (-9)
  else
    some u1
def f_X2_firstTo (f_firsts : Nat → Int32) (x1 : Int32) : Option (Int32) :=
  (f_X6_item 720 f_firsts x1).bind fun u1 =>
  some u1
def f_X4_become (v_a1_keepers : Int32) (v_a1_hates : Int32) (v_a1_sight : Int32) (f_a1_flashes : Nat → Int32) (f_flashes : Nat → Int32) (f_a1_haters : Nat → Int32) (f_haters : Nat → Int32) : Option (Int32 × Int32 × Int32 × (Nat → Int32) × (Nat → Int32)) :=
  some (v_a1_keepers, v_a1_hates, v_a1_sight, (va_cpy f_a1_flashes f_flashes (Int32.toNatClampNeg 0) (Int32.toNatClampNeg 0) (Int32.toNatClampNeg 6)), (va_cpy f_a1_haters f_haters (Int32.toNatClampNeg 0) (Int32.toNatClampNeg 0) (Int32.toNatClampNeg 6)))
def f_X5_factorial (x0 : Int32) : Option (Int32) :=
  if x0 < 0 then
    some 0
  else
    if 7 ≤ x0 then
      some 0
    else
      if x0 < 0 ∨ 7 ≤ x0.toNatClampNeg then none else
      some (facI x0.toNatClampNeg)
def lp_X5_freeKeeper_L4 (x0 : Int32) (k : Int32 → Int32 → Option (Int32)) : Nat → Int32 → Int32 → Option (Int32)
  | 0, _, _ => none
  | n + 1, x2, x3 =>
    if 6 ≤ x3 then
      k x2 x3
    else
      if ((x0 >>> (x3 &&& 31)) &&& 1) = 1 then
        if x2 = 0 then
          some x3
        else
          lp_X5_freeKeeper_L4 x0 k n (x2 + (-1)) (x3 + 1)
      else
        lp_X5_freeKeeper_L4 x0 k n x2 (x3 + 1)
def f_X5_freeKeeper (x0 : Int32) (x1 : Int32) : Option (Int32) :=
  lp_X5_freeKeeper_L4 x0 (fun y4 y5 =>
      some 0)
    FU x1 0
def lp_X5_fillRow_L14 (v_rocks : Int32) (k : Int32 → Int32 → Int32 → (Nat → Int32) → Option ((Nat → Int32))) : Nat → Int32 → Int32 → Int32 → (Nat → Int32) → Option ((Nat → Int32))
  | 0, _, _, _, _ => none
  | n + 1, x2, x3, x4, f_row =>
    if v_rocks ≤ x4 then
      k x2 x3 x4 f_row
    else
      (f_X5_factorial ((v_rocks - 1) - x4)).bind fun u2 =>
      if u2 ≤ 0 then
        (f_X5_freeKeeper x3 0).bind fun u4 =>
        if u2 ≤ 0 then
          (f_X6_put 6 f_row x4 u4).bind fun u6 =>
          lp_X5_fillRow_L14 v_rocks k n 0 (x3 &&& ((1 <<< (u4 &&& 31)) ^^^ (-1))) (x4 + 1) u6
        else
          if u2 = 0 then none else
          (f_X6_put 6 f_row x4 u4).bind fun u8 =>
          lp_X5_fillRow_L14 v_rocks k n (x2 - x2 / u2 * u2) (x3 &&& ((1 <<< (u4 &&& 31)) ^^^ (-1))) (x4 + 1) u8
      else
        if u2 = 0 then none else
        (f_X5_freeKeeper x3 (x2 / u2)).bind fun u10 =>
        if u2 ≤ 0 then
          (f_X6_put 6 f_row x4 u10).bind fun u12 =>
          lp_X5_fillRow_L14 v_rocks k n 0 (x3 &&& ((1 <<< (u10 &&& 31)) ^^^ (-1))) (x4 + 1) u12
        else
          if u2 = 0 then none else
          (f_X6_put 6 f_row x4 u10).bind fun u14 =>
          lp_X5_fillRow_L14 v_rocks k n (x2 - x2 / u2 * u2) (x3 &&& ((1 <<< (u10 &&& 31)) ^^^ (-1))) (x4 + 1) u14
def f_X5_fillRow (v_rocks : Int32) (f_row : Nat → Int32) (x1 : Int32) : Option ((Nat → Int32)) :=
  lp_X5_fillRow_L14 v_rocks (fun y15 y16 y17 y18 =>
      some y18)
    FU x1 ((1 <<< (v_rocks &&& 31)) - 1) 0 f_row
def f_J6_bitCount_0f7a4 (x0 : Int32) : Option (Int32) :=
  some ((((((((x0 - ((ushr x0 1) &&& 1431655765)) &&& 858993459) + ((ushr (x0 - ((ushr x0 1) &&& 1431655765)) 2) &&& 858993459)) + (ushr (((x0 - ((ushr x0 1) &&& 1431655765)) &&& 858993459) + ((ushr (x0 - ((ushr x0 1) &&& 1431655765)) 2) &&& 858993459)) 4)) &&& 252645135) + (ushr (((((x0 - ((ushr x0 1) &&& 1431655765)) &&& 858993459) + ((ushr (x0 - ((ushr x0 1) &&& 1431655765)) 2) &&& 858993459)) + (ushr (((x0 - ((ushr x0 1) &&& 1431655765)) &&& 858993459) + ((ushr (x0 - ((ushr x0 1) &&& 1431655765)) 2) &&& 858993459)) 4)) &&& 252645135) 8)) + (ushr ((((((x0 - ((ushr x0 1) &&& 1431655765)) &&& 858993459) + ((ushr (x0 - ((ushr x0 1) &&& 1431655765)) 2) &&& 858993459)) + (ushr (((x0 - ((ushr x0 1) &&& 1431655765)) &&& 858993459) + ((ushr (x0 - ((ushr x0 1) &&& 1431655765)) 2) &&& 858993459)) 4)) &&& 252645135) + (ushr (((((x0 - ((ushr x0 1) &&& 1431655765)) &&& 858993459) + ((ushr (x0 - ((ushr x0 1) &&& 1431655765)) 2) &&& 858993459)) + (ushr (((x0 - ((ushr x0 1) &&& 1431655765)) &&& 858993459) + ((ushr (x0 - ((ushr x0 1) &&& 1431655765)) 2) &&& 858993459)) 4)) &&& 252645135) 8)) 16)) &&& 63)
def lp_X5_numberOfRow_L13 (v_rocks : Int32) (f_row : Nat → Int32) (k : Int32 → Int32 → Int32 → Option (Int32)) : Nat → Int32 → Int32 → Int32 → Option (Int32)
  | 0, _, _, _ => none
  | n + 1, x1, x2, x3 =>
    if v_rocks ≤ x3 then
      k x1 x2 x3
    else
      (f_X6_item 6 f_row x3).bind fun u2 =>
      (f_J6_bitCount_0f7a4 (x2 &&& ((1 <<< (u2 &&& 31)) - 1))).bind fun u3 =>
      (f_X5_factorial ((v_rocks - 1) - x3)).bind fun u4 =>
      lp_X5_numberOfRow_L13 v_rocks f_row k n (x1 + (u3 * u4)) (x2 &&& ((1 <<< (u2 &&& 31)) ^^^ (-1))) (x3 + 1)
def f_X5_numberOfRow (v_rocks : Int32) (f_row : Nat → Int32) : Option (Int32) :=
  lp_X5_numberOfRow_L13 v_rocks f_row (fun y5 y6 y7 =>
      some y5)
    FU 0 ((1 <<< (v_rocks &&& 31)) - 1) 0
def f_X5_swapInRow (f_row : Nat → Int32) (x1 : Int32) : Option ((Nat → Int32)) :=
  (f_X6_item 6 f_row x1).bind fun u1 =>
  (f_X6_item 6 f_row (x1 + 1)).bind fun u2 =>
  (f_X6_put 6 f_row x1 u2).bind fun u3 =>
  (f_X6_put 6 u3 (x1 + 1) u1).bind fun u4 =>
  some u4
def lp_X5_become_L77 (v_rocks : Int32) (x2 : Int32) (k : Int32 → (Nat → Int32) → (Nat → Int32) → Option (Int32 × Int32 × (Nat → Int32) × (Nat → Int32) × (Nat → Int32))) : Nat → Int32 → (Nat → Int32) → (Nat → Int32) → Option (Int32 × Int32 × (Nat → Int32) × (Nat → Int32) × (Nat → Int32))
  | 0, _, _, _ => none
  | n + 1, x3, f_row, f_changed =>
    if v_rocks ≤ (x3 + 1) then
      k x3 f_row f_changed
    else
      (f_X5_swapInRow f_row x3).bind fun u10 =>
      (f_X5_numberOfRow v_rocks u10).bind fun u11 =>
      (f_X6_put 3600 f_changed ((x2 * 5) + x3) u11).bind fun u12 =>
      (f_X5_swapInRow u10 x3).bind fun u13 =>
      lp_X5_become_L77 v_rocks x2 k n (x3 + 1) u13 u12
def lp_X5_become_L37 (v_rocks : Int32) (v_many : Int32) (k : Int32 → (Nat → Int32) → (Nat → Int32) → (Nat → Int32) → Option (Int32 × Int32 × (Nat → Int32) × (Nat → Int32) × (Nat → Int32))) : Nat → Int32 → (Nat → Int32) → (Nat → Int32) → (Nat → Int32) → Option (Int32 × Int32 × (Nat → Int32) × (Nat → Int32) × (Nat → Int32))
  | 0, _, _, _, _ => none
  | n + 1, x2, f_row, f_keepers, f_changed =>
    if v_many ≤ x2 then
      k x2 f_row f_keepers f_changed
    else
      if 720 ≤ x2 then
        k x2 f_row f_keepers f_changed
      else
        (f_X5_fillRow v_rocks f_row x2).bind fun u7 =>
        if (x2 * 6) < 0 ∨ 4320 < (x2 * 6).toNatClampNeg + (Int32.toNatClampNeg 6) then none else
        lp_X5_become_L77 v_rocks x2 (fun y14 y15 y16 =>
            lp_X5_become_L37 v_rocks v_many k n (x2 + 1) y15 (va_cpy u7 f_keepers (Int32.toNatClampNeg 0) (x2 * 6).toNatClampNeg (Int32.toNatClampNeg 6)) y16)
          FU 0 u7 f_changed
def f_X5_become (v_rocks : Int32) (v_many : Int32) (f_row : Nat → Int32) (f_keepers : Nat → Int32) (f_changed : Nat → Int32) (x1 : Int32) : Option (Int32 × Int32 × (Nat → Int32) × (Nat → Int32) × (Nat → Int32)) :=
  if x1 = v_rocks then
    some (v_rocks, v_many, f_row, f_keepers, f_changed)
  else
    if x1 < 0 then
      some (v_rocks, v_many, f_row, f_keepers, f_changed)
    else
      if x1 ≤ 6 then
        (f_X5_factorial x1).bind fun u4 =>
        lp_X5_become_L37 x1 u4 (fun y17 y18 y19 y20 =>
            some (x1, u4, y18, y19, y20))
          FU 0 f_row f_keepers f_changed
      else
        some (v_rocks, v_many, f_row, f_keepers, f_changed)
def f_X3_become (v_a1_keepers : Int32) (v_a1_hates : Int32) (v_a1_sight : Int32) (f_a1_flashes : Nat → Int32) (f_told_flashes : Nat → Int32) (f_a1_haters : Nat → Int32) (f_told_haters : Nat → Int32) (v_ways_rocks : Int32) (v_ways_many : Int32) (f_ways_row : Nat → Int32) (f_ways_keepers : Nat → Int32) (f_ways_changed : Nat → Int32) : Option (Int32 × Int32 × Int32 × (Nat → Int32) × (Nat → Int32) × Int32 × Int32 × (Nat → Int32) × (Nat → Int32) × (Nat → Int32)) :=
  (f_X4_become v_a1_keepers v_a1_hates v_a1_sight f_a1_flashes f_told_flashes f_a1_haters f_told_haters).bind fun u1 =>
  (f_X5_become v_ways_rocks v_ways_many f_ways_row f_ways_keepers f_ways_changed u1.1).bind fun u2 =>
  some (u1.1, u1.2.1, u1.2.2.1, u1.2.2.2.1, u1.2.2.2.2, u2.1, u2.2.1, u2.2.2.1, u2.2.2.2.1, u2.2.2.2.2)
def lp_X3_calmest_L18 (v_told_keepers : Int32) (v_told_sight : Int32) (f_ways_keepers : Nat → Int32) (f_told_flashes : Nat → Int32) (f_ways_changed : Nat → Int32) (x1 : Int32) (x2 : Int32) (k : Int32 → Int32 → Int32 → Option (Int32)) : Nat → Int32 → Int32 → Int32 → Option (Int32)
  | 0, _, _, _ => none
  | n + 1, x3, x4, x5 =>
    (f_X3_changes v_told_keepers).bind fun u3 =>
    if u3 ≤ x5 then
      k x3 x4 x5
    else
      (f_X3_allows x2 x5).bind fun u5 =>
      if u5 = 0 then
        lp_X3_calmest_L18 v_told_keepers v_told_sight f_ways_keepers f_told_flashes f_ways_changed x1 x2 k n x3 x4 (x5 + 1)
      else
        (f_X3_after f_ways_changed x1 x5).bind fun u7 =>
        (f_X3_likes v_told_keepers v_told_sight f_ways_keepers f_told_flashes u7).bind fun u8 =>
        (f_J6_bitCount_0f7a4 x5).bind fun u9 =>
        (f_J6_bitCount_0f7a4 x3).bind fun u10 =>
        if u9 ≤ u10 then
          if u8 < x4 then
            lp_X3_calmest_L18 v_told_keepers v_told_sight f_ways_keepers f_told_flashes f_ways_changed x1 x2 k n x5 u8 (x5 + 1)
          else
            if u8 = x4 then
              lp_X3_calmest_L18 v_told_keepers v_told_sight f_ways_keepers f_told_flashes f_ways_changed x1 x2 k n x3 x4 (x5 + 1)
            else
              lp_X3_calmest_L18 v_told_keepers v_told_sight f_ways_keepers f_told_flashes f_ways_changed x1 x2 k n x3 x4 (x5 + 1)
        else
          if u8 < x4 then
            lp_X3_calmest_L18 v_told_keepers v_told_sight f_ways_keepers f_told_flashes f_ways_changed x1 x2 k n x5 u8 (x5 + 1)
          else
            if u8 = x4 then
              lp_X3_calmest_L18 v_told_keepers v_told_sight f_ways_keepers f_told_flashes f_ways_changed x1 x2 k n x5 u8 (x5 + 1)
            else
              lp_X3_calmest_L18 v_told_keepers v_told_sight f_ways_keepers f_told_flashes f_ways_changed x1 x2 k n x3 x4 (x5 + 1)
def f_X3_calmest (v_told_keepers : Int32) (v_told_sight : Int32) (f_ways_keepers : Nat → Int32) (f_told_haters : Nat → Int32) (f_told_flashes : Nat → Int32) (f_ways_changed : Nat → Int32) (x1 : Int32) : Option (Int32) :=
  (f_X3_willing v_told_keepers f_ways_keepers f_told_haters x1).bind fun u1 =>
  (f_X3_likes v_told_keepers v_told_sight f_ways_keepers f_told_flashes x1).bind fun u2 =>
  lp_X3_calmest_L18 v_told_keepers v_told_sight f_ways_keepers f_told_flashes f_ways_changed x1 u1 (fun y16 y17 y18 =>
      some y16)
    FU 0 u2 1
def lp_X5_rockOf_L2 (v_rocks : Int32) (f_keepers : Nat → Int32) (x1 : Int32) (x2 : Int32) (k : Int32 → Option (Int32)) : Nat → Int32 → Option (Int32)
  | 0, _ => none
  | n + 1, x3 =>
    if v_rocks ≤ x3 then
      k x3
    else
      (f_X5_who f_keepers x1 x3).bind fun u2 =>
      if u2 = x2 then
        some x3
      else
        lp_X5_rockOf_L2 v_rocks f_keepers x1 x2 k n (x3 + 1)
def f_X5_rockOf (v_rocks : Int32) (f_keepers : Nat → Int32) (x1 : Int32) (x2 : Int32) : Option (Int32) :=
  lp_X5_rockOf_L2 v_rocks f_keepers x1 x2 (fun y4 =>
      some (-9))
    FU 0
def f_X6_type (v_text_length : Int32) (f_text_bytes : Nat → Int32) (x1 : Int32) : Option (Int32 × Int32 × (Nat → Int32)) :=
  if x1 < 0 then
    some ((-1), v_text_length, f_text_bytes)
  else
    if x1 ≤ 255 then
      (f_X1_add v_text_length f_text_bytes x1).bind fun u3 =>
      if u3.1 = 0 then
        some ((-3), u3.2.1, u3.2.2)
      else
        some (u3.2.1, u3.2.1, u3.2.2)
    else
      some ((-1), v_text_length, f_text_bytes)
def f_X6_clear (v_text_length : Int32) : Option (Int32 × Int32) :=
  some (v_text_length, 0)
def f_X6_coast (v_seen : Int32) (v_text_length : Int32) (v_text_place : Int32) (v_text_token : Int32) (v_text_value : Int32) (f_draft_haters : Nat → Int32) (f_text_bytes : Nat → Int32) (f_draft_flashes : Nat → Int32) (v_shore_told_keepers : Int32) (v_shore_told_hates : Int32) (v_shore_told_sight : Int32) (f_shore_told_flashes : Nat → Int32) (f_shore_told_haters : Nat → Int32) (v_shore_ways_rocks : Int32) (v_shore_ways_many : Int32) (f_shore_ways_row : Nat → Int32) (f_shore_ways_keepers : Nat → Int32) (f_shore_ways_changed : Nat → Int32) (v_anyhow_from : Int32) (v_safely_from : Int32) (v_present_way : Int32) (v_present_moons : Int32) (v_present_burnt : Int32) (v_present_out : Int32) (v_present_known : Int32) (v_present_isKept : Int32) (v_image0_way : Int32) (v_image0_moons : Int32) (v_image0_burnt : Int32) (v_image0_out : Int32) (v_image0_known : Int32) (v_image0_isKept : Int32) (v_image1_way : Int32) (v_image1_moons : Int32) (v_image1_burnt : Int32) (v_image1_out : Int32) (v_image1_known : Int32) (v_image1_isKept : Int32) : Option (Int32 × Int32 × Int32 × Int32 × Int32 × Int32 × Int32 × Int32 × Int32 × Int32 × Int32 × (Nat → Int32) × (Nat → Int32) × Int32 × Int32 × Int32 × (Nat → Int32) × (Nat → Int32) × Int32 × Int32 × (Nat → Int32) × (Nat → Int32) × (Nat → Int32) × Int32 × Int32 × Int32 × Int32 × Int32 × Int32 × Int32 × Int32 × Int32 × Int32 × Int32 × Int32 × Int32 × Int32 × Int32 × Int32 × Int32 × Int32 × Int32 × Int32) :=
  (f_X1_read v_text_length v_text_place v_text_token v_text_value f_draft_haters f_text_bytes f_draft_flashes).bind fun u1 =>
  if u1.1 = (-9) then
    some (((-10) - u1.2.1), v_seen, v_text_length, u1.2.1, u1.2.2.1, u1.2.2.2.1, u1.2.2.2.2.1, u1.2.2.2.2.2.1, u1.2.2.2.2.2.2.1, u1.2.2.2.2.2.2.2.1, u1.2.2.2.2.2.2.2.2.1, u1.2.2.2.2.2.2.2.2.2.1, u1.2.2.2.2.2.2.2.2.2.2, v_shore_told_keepers, v_shore_told_hates, v_shore_told_sight, f_shore_told_flashes, f_shore_told_haters, v_shore_ways_rocks, v_shore_ways_many, f_shore_ways_row, f_shore_ways_keepers, f_shore_ways_changed, v_anyhow_from, v_safely_from, v_present_way, v_present_moons, v_present_burnt, v_present_out, v_present_known, v_present_isKept, v_image0_way, v_image0_moons, v_image0_burnt, v_image0_out, v_image0_known, v_image0_isKept, v_image1_way, v_image1_moons, v_image1_burnt, v_image1_out, v_image1_known, v_image1_isKept)
  else
    (f_X3_become u1.2.2.2.2.2.1 u1.2.2.2.2.2.2.1 u1.2.2.2.2.2.2.2.1 u1.2.2.2.2.2.2.2.2.2.2 f_shore_told_flashes u1.2.2.2.2.2.2.2.2.2.1 f_shore_told_haters v_shore_ways_rocks v_shore_ways_many f_shore_ways_row f_shore_ways_keepers f_shore_ways_changed).bind fun u3 =>
    (f_X2_renew).bind fun u4 =>
    (f_X2_renew).bind fun u5 =>
    (f_X0_begin).bind fun u6 =>
    (f_X0_begin).bind fun u7 =>
    (f_X0_begin).bind fun u8 =>
    some (u1.1, 0, 0, u1.2.1, u1.2.2.1, u1.2.2.2.1, u1.2.2.2.2.1, u1.2.2.2.2.2.1, u1.2.2.2.2.2.2.1, u1.2.2.2.2.2.2.2.1, u1.2.2.2.2.2.2.2.2.1, u1.2.2.2.2.2.2.2.2.2.1, u1.2.2.2.2.2.2.2.2.2.2, u3.1, u3.2.1, u3.2.2.1, u3.2.2.2.1, u3.2.2.2.2.1, u3.2.2.2.2.2.1, u3.2.2.2.2.2.2.1, u3.2.2.2.2.2.2.2.1, u3.2.2.2.2.2.2.2.2.1, u3.2.2.2.2.2.2.2.2.2, u4, u5, u6.1, u6.2.1, u6.2.2.1, u6.2.2.2.1, u6.2.2.2.2.1, u6.2.2.2.2.2, u7.1, u7.2.1, u7.2.2.1, u7.2.2.2.1, u7.2.2.2.2.1, u7.2.2.2.2.2, u8.1, u8.2.1, u8.2.2.1, u8.2.2.2.1, u8.2.2.2.2.1, u8.2.2.2.2.2)
def f_X6_driftOf (v_shore_ways_rocks : Int32) (v_present_way : Int32) (f_shore_ways_keepers : Nat → Int32) (x1 : Int32) : Option (Int32) :=
  (f_X5_rockOf v_shore_ways_rocks f_shore_ways_keepers v_present_way x1).bind fun u1 =>
  some (if 0 ≤ (u1 - x1) then (u1 - x1) else 0 - (u1 - x1))
def f_X6_isKeeper (v_shore_told_keepers : Int32) (x1 : Int32) : Option (Int32) :=
  if x1 < 0 then
    some 0
  else
    if v_shore_told_keepers ≤ x1 then
      some 0
    else
      some 1
def f_X6_isOut (v_present_out : Int32) (x1 : Int32) : Option (Int32) :=
  if ((v_present_out >>> (x1 &&& 31)) &&& 1) = 1 then
    some 1
  else
    some 0
def f_X6_keeper (v_shore_told_keepers : Int32) (f_shore_told_haters : Nat → Int32) (v_present_way : Int32) (v_present_out : Int32) (v_shore_ways_rocks : Int32) (f_shore_ways_keepers : Nat → Int32) (f_shore_told_flashes : Nat → Int32) (x1 : Int32) (x2 : Int32) : Option (Int32) :=
  (f_X6_isKeeper v_shore_told_keepers x1).bind fun u1 =>
  if u1 = 0 then
    some (-1)
  else
    if x2 = 0 then
      (f_X4_flashOf f_shore_told_flashes x1).bind fun u4 =>
      some u4
    else
      if x2 = 1 then
        (f_X5_rockOf v_shore_ways_rocks f_shore_ways_keepers v_present_way x1).bind fun u6 =>
        some u6
      else
        if x2 = 2 then
          (f_X6_driftOf v_shore_ways_rocks v_present_way f_shore_ways_keepers x1).bind fun u8 =>
          some u8
        else
          if x2 = 3 then
            (f_X6_isOut v_present_out x1).bind fun u10 =>
            if u10 = 0 then
              some 0
            else
              some 1
          else
            if x2 = 4 then
              (f_X4_hatersOf f_shore_told_haters x1).bind fun u13 =>
              some u13
            else
              some (-1)
def f_X6_isRock (v_shore_told_keepers : Int32) (x1 : Int32) : Option (Int32) :=
  (f_X6_isKeeper v_shore_told_keepers x1).bind fun u1 =>
  if ¬ (u1 = 0 ∨ u1 = 1) then none else
  some u1
def f_X6_rock (v_shore_told_keepers : Int32) (v_present_way : Int32) (f_shore_ways_keepers : Nat → Int32) (x1 : Int32) : Option (Int32) :=
  (f_X6_isRock v_shore_told_keepers x1).bind fun u1 =>
  if u1 = 0 then
    some (-1)
  else
    (f_X5_who f_shore_ways_keepers v_present_way x1).bind fun u3 =>
    some u3
def lp_X6_flashesNotOut_L4 (v_shore_told_keepers : Int32) (v_present_out : Int32) (f_shore_told_flashes : Nat → Int32) (k : Int32 → Int32 → Option (Int32)) : Nat → Int32 → Int32 → Option (Int32)
  | 0, _, _ => none
  | n + 1, x1, x2 =>
    if v_shore_told_keepers ≤ x2 then
      k x1 x2
    else
      (f_X6_isOut v_present_out x2).bind fun u2 =>
      if u2 = 0 then
        (f_X4_flashOf f_shore_told_flashes x2).bind fun u4 =>
        lp_X6_flashesNotOut_L4 v_shore_told_keepers v_present_out f_shore_told_flashes k n (x1 + u4) (x2 + 1)
      else
        lp_X6_flashesNotOut_L4 v_shore_told_keepers v_present_out f_shore_told_flashes k n x1 (x2 + 1)
def f_X6_flashesNotOut (v_shore_told_keepers : Int32) (v_present_out : Int32) (f_shore_told_flashes : Nat → Int32) : Option (Int32) :=
  lp_X6_flashesNotOut_L4 v_shore_told_keepers v_present_out f_shore_told_flashes (fun y5 y6 =>
      some y5)
    FU 0 0
def f_X6_moon (v_shore_told_keepers : Int32) (v_present_way : Int32) (v_present_moons : Int32) (v_present_burnt : Int32) (v_present_out : Int32) (v_present_known : Int32) (f_shore_ways_keepers : Nat → Int32) (f_shore_told_haters : Nat → Int32) (f_present_past : Nat → Int32) (f_shore_ways_changed : Nat → Int32) (f_shore_told_flashes : Nat → Int32) (x1 : Int32) : Option (Int32 × Int32 × Int32 × Int32 × Int32 × (Nat → Int32)) :=
  if x1 < 0 then
    some ((-1), v_present_way, v_present_moons, v_present_burnt, v_present_known, f_present_past)
  else
    (f_X3_changes v_shore_told_keepers).bind fun u2 =>
    if x1 < u2 then
      if 99 ≤ v_present_moons then
        some ((-2), v_present_way, v_present_moons, v_present_burnt, v_present_known, f_present_past)
      else
        (f_X3_willing v_shore_told_keepers f_shore_ways_keepers f_shore_told_haters v_present_way).bind fun u5 =>
        (f_X3_allows u5 x1).bind fun u6 =>
        if u6 = 0 then
          some ((-2), v_present_way, v_present_moons, v_present_burnt, v_present_known, f_present_past)
        else
          (f_X0_remember v_present_way v_present_moons v_present_burnt v_present_out v_present_known f_present_past).bind fun u8 =>
          (f_X3_after f_shore_ways_changed v_present_way x1).bind fun u9 =>
          (f_X6_flashesNotOut v_shore_told_keepers v_present_out f_shore_told_flashes).bind fun u10 =>
          (f_J6_bitCount_0f7a4 x1).bind fun u11 =>
          some ((2 * u11), u9, (v_present_moons + 1), (v_present_burnt + u10), u8.1, u8.2)
    else
      some ((-1), v_present_way, v_present_moons, v_present_burnt, v_present_known, f_present_past)
def f_X6_isZeroOrOne (x0 : Int32) : Option (Int32) :=
  if x0 = 0 then
    some 1
  else
    if x0 = 1 then
      some 1
    else
      some 0
def f_X6_puts (v_shore_told_keepers : Int32) (v_present_way : Int32) (v_present_moons : Int32) (v_present_burnt : Int32) (v_present_out : Int32) (v_present_known : Int32) (f_present_past : Nat → Int32) (x1 : Int32) (x2 : Int32) : Option (Int32 × Int32 × Int32 × (Nat → Int32)) :=
  (f_X6_isKeeper v_shore_told_keepers x1).bind fun u1 =>
  if u1 = 0 then
    some ((-1), v_present_out, v_present_known, f_present_past)
  else
    (f_X6_isZeroOrOne x2).bind fun u3 =>
    if u3 = 0 then
      some ((-1), v_present_out, v_present_known, f_present_past)
    else
      (f_X6_isOut v_present_out x1).bind fun u5 =>
      if x2 = 1 then
        if u5 = 1 then
          some ((-2), v_present_out, v_present_known, f_present_past)
        else
          (f_X0_remember v_present_way v_present_moons v_present_burnt v_present_out v_present_known f_present_past).bind fun u11 =>
          (f_J6_bitCount_0f7a4 (v_present_out ^^^ (1 <<< (x1 &&& 31)))).bind fun u12 =>
          some (u12, (v_present_out ^^^ (1 <<< (x1 &&& 31))), u11.1, u11.2)
      else
        if u5 = 0 then
          some ((-2), v_present_out, v_present_known, f_present_past)
        else
          (f_X0_remember v_present_way v_present_moons v_present_burnt v_present_out v_present_known f_present_past).bind fun u8 =>
          (f_J6_bitCount_0f7a4 (v_present_out ^^^ (1 <<< (x1 &&& 31)))).bind fun u9 =>
          some (u9, (v_present_out ^^^ (1 <<< (x1 &&& 31))), u8.1, u8.2)
def f_X6_undo (v_present_way : Int32) (v_present_moons : Int32) (v_present_burnt : Int32) (v_present_out : Int32) (v_present_known : Int32) (f_present_past : Nat → Int32) : Option (Int32 × Int32 × Int32 × Int32 × Int32 × Int32) :=
  (f_X0_recall v_present_way v_present_moons v_present_burnt v_present_out v_present_known f_present_past).bind fun u1 =>
  if u1.1 = 0 then
    some ((-2), u1.2.1, u1.2.2.1, u1.2.2.2.1, u1.2.2.2.2.1, u1.2.2.2.2.2)
  else
    some (u1.2.2.2.2.2, u1.2.1, u1.2.2.1, u1.2.2.2.1, u1.2.2.2.2.1, u1.2.2.2.2.2)
def lp_X6_drifts_L4 (v_shore_told_keepers : Int32) (v_shore_ways_rocks : Int32) (v_present_way : Int32) (f_shore_ways_keepers : Nat → Int32) (k : Int32 → Int32 → Option (Int32)) : Nat → Int32 → Int32 → Option (Int32)
  | 0, _, _ => none
  | n + 1, x1, x2 =>
    if v_shore_told_keepers ≤ x2 then
      k x1 x2
    else
      (f_X6_driftOf v_shore_ways_rocks v_present_way f_shore_ways_keepers x2).bind fun u2 =>
      lp_X6_drifts_L4 v_shore_told_keepers v_shore_ways_rocks v_present_way f_shore_ways_keepers k n (x1 + u2) (x2 + 1)
def f_X6_drifts (v_shore_told_keepers : Int32) (v_shore_ways_rocks : Int32) (v_present_way : Int32) (f_shore_ways_keepers : Nat → Int32) : Option (Int32) :=
  lp_X6_drifts_L4 v_shore_told_keepers v_shore_ways_rocks v_present_way f_shore_ways_keepers (fun y3 y4 =>
      some y3)
    FU 0 0
def f_X6_now (v_present_way : Int32) (v_present_moons : Int32) (v_present_burnt : Int32) (v_present_out : Int32) (v_shore_told_keepers : Int32) (v_shore_told_sight : Int32) (v_shore_ways_rocks : Int32) (f_shore_ways_keepers : Nat → Int32) (f_shore_told_haters : Nat → Int32) (f_shore_told_flashes : Nat → Int32) (f_shore_ways_changed : Nat → Int32) (x1 : Int32) : Option (Int32) :=
  if x1 = 0 then
    some v_present_moons
  else
    if x1 = 1 then
      some v_present_burnt
    else
      if x1 = 2 then
        some v_present_out
      else
        if x1 = 3 then
          (f_X3_likes v_shore_told_keepers v_shore_told_sight f_shore_ways_keepers f_shore_told_flashes v_present_way).bind fun u5 =>
          some u5
        else
          if x1 = 4 then
            (f_X6_drifts v_shore_told_keepers v_shore_ways_rocks v_present_way f_shore_ways_keepers).bind fun u7 =>
            some u7
          else
            if x1 = 5 then
              (f_X3_calmest v_shore_told_keepers v_shore_told_sight f_shore_ways_keepers f_shore_told_haters f_shore_told_flashes f_shore_ways_changed v_present_way).bind fun u9 =>
              some u9
            else
              some (-1)
def f_X6_searchOf (x1 : Int32) : Option (Nat) :=
  if x1 = 0 then
    some 0
  else
    if x1 = 1 then
      some 1
    else
      some 2
def f_X6_homeward (v_anyhow_safe : Int32) (v_anyhow_queued : Int32) (v_anyhow_from : Int32) (v_safely_safe : Int32) (v_safely_queued : Int32) (v_safely_from : Int32) (v_present_way : Int32) (f_safely_moons : Nat → Int32) (f_safely_firsts : Nat → Int32) (f_safely_queue : Nat → Int32) (v_shore_told_keepers : Int32) (v_shore_told_sight : Int32) (f_shore_ways_keepers : Nat → Int32) (f_shore_told_haters : Nat → Int32) (f_shore_ways_changed : Nat → Int32) (f_shore_told_flashes : Nat → Int32) (f_anyhow_moons : Nat → Int32) (f_anyhow_firsts : Nat → Int32) (f_anyhow_queue : Nat → Int32) (x1 : Int32) (x2 : Int32) : Option (Int32 × Int32 × Int32 × Int32 × Int32 × (Nat → Int32) × (Nat → Int32) × (Nat → Int32) × (Nat → Int32) × (Nat → Int32) × (Nat → Int32)) :=
  (f_X6_searchOf x1).bind fun u1 =>
  if u1 = 0 then
    (f_X6_isZeroOrOne x2).bind fun u2 =>
    if u2 = 0 then
      some ((-1), v_anyhow_queued, v_anyhow_from, v_safely_queued, v_safely_from, f_safely_moons, f_safely_firsts, f_safely_queue, f_anyhow_moons, f_anyhow_firsts, f_anyhow_queue)
    else
      (f_X2_spread v_anyhow_safe v_anyhow_queued v_anyhow_from f_anyhow_moons f_anyhow_firsts f_anyhow_queue v_shore_told_keepers v_shore_told_sight f_shore_ways_keepers f_shore_told_haters f_shore_ways_changed f_shore_told_flashes v_present_way).bind fun u4 =>
      (f_X2_moonsTo u4.2.2.1 0).bind fun u5 =>
      if x2 = 0 then
        some (u5, u4.1, u4.2.1, v_safely_queued, v_safely_from, f_safely_moons, f_safely_firsts, f_safely_queue, u4.2.2.1, u4.2.2.2.1, u4.2.2.2.2)
      else
        if u5 ≤ 0 then
          some ((-9), u4.1, u4.2.1, v_safely_queued, v_safely_from, f_safely_moons, f_safely_firsts, f_safely_queue, u4.2.2.1, u4.2.2.2.1, u4.2.2.2.2)
        else
          (f_X2_firstTo u4.2.2.2.1 0).bind fun u8 =>
          some (u8, u4.1, u4.2.1, v_safely_queued, v_safely_from, f_safely_moons, f_safely_firsts, f_safely_queue, u4.2.2.1, u4.2.2.2.1, u4.2.2.2.2)
  else
    if u1 = 1 then
      (f_X6_isZeroOrOne x2).bind fun u9 =>
      if u9 = 0 then
        some ((-1), v_anyhow_queued, v_anyhow_from, v_safely_queued, v_safely_from, f_safely_moons, f_safely_firsts, f_safely_queue, f_anyhow_moons, f_anyhow_firsts, f_anyhow_queue)
      else
        (f_X2_spread v_safely_safe v_safely_queued v_safely_from f_safely_moons f_safely_firsts f_safely_queue v_shore_told_keepers v_shore_told_sight f_shore_ways_keepers f_shore_told_haters f_shore_ways_changed f_shore_told_flashes v_present_way).bind fun u11 =>
        (f_X2_moonsTo u11.2.2.1 0).bind fun u12 =>
        if x2 = 0 then
          some (u12, v_anyhow_queued, v_anyhow_from, u11.1, u11.2.1, u11.2.2.1, u11.2.2.2.1, u11.2.2.2.2, f_anyhow_moons, f_anyhow_firsts, f_anyhow_queue)
        else
          if u12 ≤ 0 then
            some ((-9), v_anyhow_queued, v_anyhow_from, u11.1, u11.2.1, u11.2.2.1, u11.2.2.2.1, u11.2.2.2.2, f_anyhow_moons, f_anyhow_firsts, f_anyhow_queue)
          else
            (f_X2_firstTo u11.2.2.2.1 0).bind fun u15 =>
            some (u15, v_anyhow_queued, v_anyhow_from, u11.1, u11.2.1, u11.2.2.1, u11.2.2.2.1, u11.2.2.2.2, f_anyhow_moons, f_anyhow_firsts, f_anyhow_queue)
    else
      some ((-1), v_anyhow_queued, v_anyhow_from, v_safely_queued, v_safely_from, f_safely_moons, f_safely_firsts, f_safely_queue, f_anyhow_moons, f_anyhow_firsts, f_anyhow_queue)
def f_X6_fewer (x0 : Int32) (x1 : Int32) : Option (Int32) :=
  if x0 = (-9) then
    if x0 = (-9) then
      some x1
    else
      some x0
  else
    if x1 = (-9) then
      if x0 = (-9) then
        some x1
      else
        some x0
    else
      some (if x1 < x0 then x1 else x0)
def lp_X6_trade_L94 (v_shore_ways_many : Int32) (f_shore_ways_keepers : Nat → Int32) (f_anyhow_moons : Nat → Int32) (x1 : Int32) (x2 : Int32) (x5 : Int32) (x6 : Int32) (k : Int32 → Int32 → Option (Int32 × Int32 × Int32 × Int32 × Int32 × (Nat → Int32) × (Nat → Int32) × (Nat → Int32) × (Nat → Int32) × (Nat → Int32) × (Nat → Int32))) : Nat → Int32 → Int32 → Option (Int32 × Int32 × Int32 × Int32 × Int32 × (Nat → Int32) × (Nat → Int32) × (Nat → Int32) × (Nat → Int32) × (Nat → Int32) × (Nat → Int32))
  | 0, _, _ => none
  | n + 1, x7, x8 =>
    if v_shore_ways_many ≤ x8 then
      k x7 x8
    else
      (f_X5_who f_shore_ways_keepers x8 x5).bind fun u11 =>
      if u11 = x2 then
        (f_X5_who f_shore_ways_keepers x8 x6).bind fun u13 =>
        if u13 = x1 then
          (f_X2_moonsTo f_anyhow_moons x8).bind fun u15 =>
          (f_X6_fewer x7 u15).bind fun u16 =>
          lp_X6_trade_L94 v_shore_ways_many f_shore_ways_keepers f_anyhow_moons x1 x2 x5 x6 k n u16 (x8 + 1)
        else
          lp_X6_trade_L94 v_shore_ways_many f_shore_ways_keepers f_anyhow_moons x1 x2 x5 x6 k n x7 (x8 + 1)
      else
        lp_X6_trade_L94 v_shore_ways_many f_shore_ways_keepers f_anyhow_moons x1 x2 x5 x6 k n x7 (x8 + 1)
def lp_X6_trade_L94a (f_safely_moons : Nat → Int32) (v_shore_ways_many : Int32) (f_shore_ways_keepers : Nat → Int32) (x1 : Int32) (x2 : Int32) (x5 : Int32) (x6 : Int32) (k : Int32 → Int32 → Option (Int32 × Int32 × Int32 × Int32 × Int32 × (Nat → Int32) × (Nat → Int32) × (Nat → Int32) × (Nat → Int32) × (Nat → Int32) × (Nat → Int32))) : Nat → Int32 → Int32 → Option (Int32 × Int32 × Int32 × Int32 × Int32 × (Nat → Int32) × (Nat → Int32) × (Nat → Int32) × (Nat → Int32) × (Nat → Int32) × (Nat → Int32))
  | 0, _, _ => none
  | n + 1, x7, x8 =>
    if v_shore_ways_many ≤ x8 then
      k x7 x8
    else
      (f_X5_who f_shore_ways_keepers x8 x5).bind fun u28 =>
      if u28 = x2 then
        (f_X5_who f_shore_ways_keepers x8 x6).bind fun u30 =>
        if u30 = x1 then
          (f_X2_moonsTo f_safely_moons x8).bind fun u32 =>
          (f_X6_fewer x7 u32).bind fun u33 =>
          lp_X6_trade_L94a f_safely_moons v_shore_ways_many f_shore_ways_keepers x1 x2 x5 x6 k n u33 (x8 + 1)
        else
          lp_X6_trade_L94a f_safely_moons v_shore_ways_many f_shore_ways_keepers x1 x2 x5 x6 k n x7 (x8 + 1)
      else
        lp_X6_trade_L94a f_safely_moons v_shore_ways_many f_shore_ways_keepers x1 x2 x5 x6 k n x7 (x8 + 1)
def f_X6_trade (v_anyhow_safe : Int32) (v_anyhow_queued : Int32) (v_anyhow_from : Int32) (v_safely_safe : Int32) (v_safely_queued : Int32) (v_safely_from : Int32) (v_shore_told_keepers : Int32) (v_shore_told_sight : Int32) (v_present_way : Int32) (f_safely_moons : Nat → Int32) (f_safely_firsts : Nat → Int32) (f_safely_queue : Nat → Int32) (v_shore_ways_rocks : Int32) (v_shore_ways_many : Int32) (f_shore_ways_keepers : Nat → Int32) (f_shore_told_haters : Nat → Int32) (f_shore_ways_changed : Nat → Int32) (f_shore_told_flashes : Nat → Int32) (f_anyhow_moons : Nat → Int32) (f_anyhow_firsts : Nat → Int32) (f_anyhow_queue : Nat → Int32) (x1 : Int32) (x2 : Int32) (x3 : Int32) : Option (Int32 × Int32 × Int32 × Int32 × Int32 × (Nat → Int32) × (Nat → Int32) × (Nat → Int32) × (Nat → Int32) × (Nat → Int32) × (Nat → Int32)) :=
  (f_X6_searchOf x3).bind fun u1 =>
  if u1 = 0 then
    (f_X6_isKeeper v_shore_told_keepers x1).bind fun u2 =>
    if u2 = 0 then
      some ((-1), v_anyhow_queued, v_anyhow_from, v_safely_queued, v_safely_from, f_safely_moons, f_safely_firsts, f_safely_queue, f_anyhow_moons, f_anyhow_firsts, f_anyhow_queue)
    else
      (f_X6_isKeeper v_shore_told_keepers x2).bind fun u4 =>
      if u4 = 0 then
        some ((-1), v_anyhow_queued, v_anyhow_from, v_safely_queued, v_safely_from, f_safely_moons, f_safely_firsts, f_safely_queue, f_anyhow_moons, f_anyhow_firsts, f_anyhow_queue)
      else
        if x1 = x2 then
          some ((-1), v_anyhow_queued, v_anyhow_from, v_safely_queued, v_safely_from, f_safely_moons, f_safely_firsts, f_safely_queue, f_anyhow_moons, f_anyhow_firsts, f_anyhow_queue)
        else
          (f_X2_spread v_anyhow_safe v_anyhow_queued v_anyhow_from f_anyhow_moons f_anyhow_firsts f_anyhow_queue v_shore_told_keepers v_shore_told_sight f_shore_ways_keepers f_shore_told_haters f_shore_ways_changed f_shore_told_flashes v_present_way).bind fun u7 =>
          (f_X5_rockOf v_shore_ways_rocks f_shore_ways_keepers v_present_way x1).bind fun u8 =>
          (f_X5_rockOf v_shore_ways_rocks f_shore_ways_keepers v_present_way x2).bind fun u9 =>
          lp_X6_trade_L94 v_shore_ways_many f_shore_ways_keepers u7.2.2.1 x1 x2 u8 u9 (fun y17 y18 =>
              some (y17, u7.1, u7.2.1, v_safely_queued, v_safely_from, f_safely_moons, f_safely_firsts, f_safely_queue, u7.2.2.1, u7.2.2.2.1, u7.2.2.2.2))
            FU (-9) 0
  else
    if u1 = 1 then
      (f_X6_isKeeper v_shore_told_keepers x1).bind fun u19 =>
      if u19 = 0 then
        some ((-1), v_anyhow_queued, v_anyhow_from, v_safely_queued, v_safely_from, f_safely_moons, f_safely_firsts, f_safely_queue, f_anyhow_moons, f_anyhow_firsts, f_anyhow_queue)
      else
        (f_X6_isKeeper v_shore_told_keepers x2).bind fun u21 =>
        if u21 = 0 then
          some ((-1), v_anyhow_queued, v_anyhow_from, v_safely_queued, v_safely_from, f_safely_moons, f_safely_firsts, f_safely_queue, f_anyhow_moons, f_anyhow_firsts, f_anyhow_queue)
        else
          if x1 = x2 then
            some ((-1), v_anyhow_queued, v_anyhow_from, v_safely_queued, v_safely_from, f_safely_moons, f_safely_firsts, f_safely_queue, f_anyhow_moons, f_anyhow_firsts, f_anyhow_queue)
          else
            (f_X2_spread v_safely_safe v_safely_queued v_safely_from f_safely_moons f_safely_firsts f_safely_queue v_shore_told_keepers v_shore_told_sight f_shore_ways_keepers f_shore_told_haters f_shore_ways_changed f_shore_told_flashes v_present_way).bind fun u24 =>
            (f_X5_rockOf v_shore_ways_rocks f_shore_ways_keepers v_present_way x1).bind fun u25 =>
            (f_X5_rockOf v_shore_ways_rocks f_shore_ways_keepers v_present_way x2).bind fun u26 =>
            lp_X6_trade_L94a u24.2.2.1 v_shore_ways_many f_shore_ways_keepers x1 x2 u25 u26 (fun y34 y35 =>
                some (y34, v_anyhow_queued, v_anyhow_from, u24.1, u24.2.1, u24.2.2.1, u24.2.2.2.1, u24.2.2.2.2, f_anyhow_moons, f_anyhow_firsts, f_anyhow_queue))
              FU (-9) 0
    else
      some ((-1), v_anyhow_queued, v_anyhow_from, v_safely_queued, v_safely_from, f_safely_moons, f_safely_firsts, f_safely_queue, f_anyhow_moons, f_anyhow_firsts, f_anyhow_queue)
def f_X6_isFlash (x0 : Int32) : Option (Int32) :=
  if x0 < 1 then
    some 0
  else
    if 9 < x0 then
      some 0
    else
      some 1
def f_X6_shines (v_present_way : Int32) (v_present_out : Int32) (f_shore_ways_keepers : Nat → Int32) (f_shore_told_flashes : Nat → Int32) (x1 : Int32) (x2 : Int32) : Option (Int32) :=
  (f_X5_who f_shore_ways_keepers v_present_way x1).bind fun u1 =>
  (f_X4_flashOf f_shore_told_flashes u1).bind fun u2 =>
  if u2 = x2 then
    (f_X6_isOut v_present_out u1).bind fun u4 =>
    if u4 = 0 then
      some 1
    else
      some 0
  else
    some 0
def lp_X6_ship_L21 (v_shore_told_keepers : Int32) (v_present_way : Int32) (v_present_out : Int32) (f_shore_ways_keepers : Nat → Int32) (f_shore_told_flashes : Nat → Int32) (x1 : Int32) (x2 : Int32) (k : Int32 → Int32 → Option (Int32)) : Nat → Int32 → Int32 → Option (Int32)
  | 0, _, _ => none
  | n + 1, x3, x4 =>
    if v_shore_told_keepers ≤ (x4 + 1) then
      k x3 x4
    else
      (f_X6_shines v_present_way v_present_out f_shore_ways_keepers f_shore_told_flashes x4 x1).bind fun u6 =>
      if u6 = 0 then
        lp_X6_ship_L21 v_shore_told_keepers v_present_way v_present_out f_shore_ways_keepers f_shore_told_flashes x1 x2 k n x3 (x4 + 1)
      else
        (f_X6_shines v_present_way v_present_out f_shore_ways_keepers f_shore_told_flashes (x4 + 1) x2).bind fun u8 =>
        if u8 = 0 then
          lp_X6_ship_L21 v_shore_told_keepers v_present_way v_present_out f_shore_ways_keepers f_shore_told_flashes x1 x2 k n x3 (x4 + 1)
        else
          lp_X6_ship_L21 v_shore_told_keepers v_present_way v_present_out f_shore_ways_keepers f_shore_told_flashes x1 x2 k n (x3 ||| (1 <<< (x4 &&& 31))) (x4 + 1)
def f_X6_ship (v_shore_told_keepers : Int32) (v_present_way : Int32) (v_present_out : Int32) (f_shore_ways_keepers : Nat → Int32) (f_shore_told_flashes : Nat → Int32) (x1 : Int32) (x2 : Int32) : Option (Int32) :=
  (f_X6_isFlash x1).bind fun u1 =>
  if u1 = 0 then
    some (-1)
  else
    (f_X6_isFlash x2).bind fun u3 =>
    if u3 = 0 then
      some (-1)
    else
      lp_X6_ship_L21 v_shore_told_keepers v_present_way v_present_out f_shore_ways_keepers f_shore_told_flashes x1 x2 (fun y10 y11 =>
          some y10)
        FU 0 0
def lp_X6_commonDivisor_L7  (k : Int32 → Int32 → Int32 → Option (Int32)) : Nat → Int32 → Int32 → Int32 → Option (Int32)
  | 0, _, _, _ => none
  | n + 1, x2, x3, x4 =>
    if 50 ≤ x4 then
      k x2 x3 x4
    else
      if x3 = 0 then
        k x2 x3 x4
      else
        if x3 = 0 then none else
        lp_X6_commonDivisor_L7  k n x3 (x2 - x2 / x3 * x3) (x4 + 1)
def f_X6_commonDivisor (x0 : Int32) (x1 : Int32) : Option (Int32) :=
  lp_X6_commonDivisor_L7  (fun y4 y5 y6 =>
      some y4)
    FU x0 x1 0
def lp_X6_lightsInSight_L4 (v_shore_told_keepers : Int32) (v_shore_told_sight : Int32) (v_present_way : Int32) (v_present_out : Int32) (f_shore_ways_keepers : Nat → Int32) (x1 : Int32) (k : Int32 → Int32 → Option (Int32)) : Nat → Int32 → Int32 → Option (Int32)
  | 0, _, _ => none
  | n + 1, x2, x3 =>
    if v_shore_told_keepers ≤ x3 then
      k x2 x3
    else
      if v_shore_told_sight < (if 0 ≤ (x3 - x1) then (x3 - x1) else 0 - (x3 - x1)) then
        lp_X6_lightsInSight_L4 v_shore_told_keepers v_shore_told_sight v_present_way v_present_out f_shore_ways_keepers x1 k n x2 (x3 + 1)
      else
        (f_X5_who f_shore_ways_keepers v_present_way x3).bind fun u3 =>
        (f_X6_isOut v_present_out u3).bind fun u4 =>
        if u4 = 0 then
          lp_X6_lightsInSight_L4 v_shore_told_keepers v_shore_told_sight v_present_way v_present_out f_shore_ways_keepers x1 k n (x2 + 1) (x3 + 1)
        else
          lp_X6_lightsInSight_L4 v_shore_told_keepers v_shore_told_sight v_present_way v_present_out f_shore_ways_keepers x1 k n x2 (x3 + 1)
def f_X6_lightsInSight (v_shore_told_keepers : Int32) (v_shore_told_sight : Int32) (v_present_way : Int32) (v_present_out : Int32) (f_shore_ways_keepers : Nat → Int32) (x1 : Int32) : Option (Int32) :=
  lp_X6_lightsInSight_L4 v_shore_told_keepers v_shore_told_sight v_present_way v_present_out f_shore_ways_keepers x1 (fun y6 y7 =>
      some y6)
    FU 0 0
def lp_X6_power_L4 (x0 : Int32) (x1 : Int32) (k : Int32 → Int32 → Option (Int32)) : Nat → Int32 → Int32 → Option (Int32)
  | 0, _, _ => none
  | n + 1, x2, x3 =>
    if x1 ≤ x3 then
      k x2 x3
    else
      lp_X6_power_L4 x0 x1 k n (x2 * x0) (x3 + 1)
def f_X6_power (x0 : Int32) (x1 : Int32) : Option (Int32) :=
  lp_X6_power_L4 x0 x1 (fun y2 y3 =>
      some y2)
    FU 1 0
def f_X6_odds (v_shore_told_keepers : Int32) (v_shore_told_sight : Int32) (v_present_way : Int32) (v_present_out : Int32) (f_shore_ways_keepers : Nat → Int32) (x1 : Int32) (x2 : Int32) (x3 : Int32) : Option (Int32) :=
  (f_X6_isRock v_shore_told_keepers x1).bind fun u1 =>
  if u1 = 0 then
    some (-1)
  else
    if x2 < 0 then
      some (-1)
    else
      if 10 < x2 then
        some (-1)
      else
        (f_X6_isZeroOrOne x3).bind fun u5 =>
        if u5 = 0 then
          some (-1)
        else
          (f_X6_lightsInSight v_shore_told_keepers v_shore_told_sight v_present_way v_present_out f_shore_ways_keepers x1).bind fun u7 =>
          (f_X6_power 10 u7).bind fun u8 =>
          (f_X6_power x2 u7).bind fun u9 =>
          (f_X6_commonDivisor (u8 - u9) u8).bind fun u10 =>
          if 0 < u10 then
            if x3 = 0 then
              if u10 = 0 then none else
              some ((u8 - u9) / u10)
            else
              if u10 = 0 then none else
              some (u8 / u10)
          else
            some (-1)
def f_X6_saw (v_seen : Int32) (v_shore_told_keepers : Int32) (f_seenRock : Nat → Int32) (f_seenFlash : Nat → Int32) (x1 : Int32) (x2 : Int32) : Option (Int32 × Int32 × (Nat → Int32) × (Nat → Int32)) :=
  (f_X6_isRock v_shore_told_keepers x1).bind fun u1 =>
  if u1 = 0 then
    some ((-1), v_seen, f_seenRock, f_seenFlash)
  else
    (f_X6_isFlash x2).bind fun u3 =>
    if u3 = 0 then
      some ((-1), v_seen, f_seenRock, f_seenFlash)
    else
      if v_seen < 6 then
        (f_X6_put 6 f_seenRock v_seen x1).bind fun u6 =>
        (f_X6_put 6 f_seenFlash v_seen x2).bind fun u7 =>
        some ((v_seen + 1), (v_seen + 1), u6, u7)
      else
        some ((-3), v_seen, f_seenRock, f_seenFlash)
def f_X6_forget (v_seen : Int32) : Option (Int32 × Int32) :=
  some (v_seen, 0)
def lp_X6_fitsSeen_L2 (v_seen : Int32) (f_seenRock : Nat → Int32) (f_shore_ways_keepers : Nat → Int32) (f_shore_told_flashes : Nat → Int32) (f_seenFlash : Nat → Int32) (x1 : Int32) (k : Int32 → Option (Int32)) : Nat → Int32 → Option (Int32)
  | 0, _ => none
  | n + 1, x2 =>
    if v_seen ≤ x2 then
      k x2
    else
      (f_X6_item 6 f_seenRock x2).bind fun u2 =>
      (f_X3_flashAt f_shore_ways_keepers f_shore_told_flashes x1 u2).bind fun u3 =>
      (f_X6_item 6 f_seenFlash x2).bind fun u4 =>
      if u3 = u4 then
        lp_X6_fitsSeen_L2 v_seen f_seenRock f_shore_ways_keepers f_shore_told_flashes f_seenFlash x1 k n (x2 + 1)
      else
        some 0
def f_X6_fitsSeen (v_seen : Int32) (f_seenRock : Nat → Int32) (f_shore_ways_keepers : Nat → Int32) (f_shore_told_flashes : Nat → Int32) (f_seenFlash : Nat → Int32) (x1 : Int32) : Option (Int32) :=
  lp_X6_fitsSeen_L2 v_seen f_seenRock f_shore_ways_keepers f_shore_told_flashes f_seenFlash x1 (fun y6 =>
      some 1)
    FU 0
def lp_X6_sureOf_L5 (v_seen : Int32) (v_shore_ways_many : Int32) (f_seenRock : Nat → Int32) (f_shore_ways_keepers : Nat → Int32) (f_shore_told_flashes : Nat → Int32) (f_seenFlash : Nat → Int32) (x1 : Int32) (k : Int32 → Int32 → Option (Int32)) : Nat → Int32 → Int32 → Option (Int32)
  | 0, _, _ => none
  | n + 1, x2, x3 =>
    if v_shore_ways_many ≤ x3 then
      k x2 x3
    else
      (f_X6_fitsSeen v_seen f_seenRock f_shore_ways_keepers f_shore_told_flashes f_seenFlash x3).bind fun u2 =>
      if u2 = 0 then
        lp_X6_sureOf_L5 v_seen v_shore_ways_many f_seenRock f_shore_ways_keepers f_shore_told_flashes f_seenFlash x1 k n x2 (x3 + 1)
      else
        (f_X5_who f_shore_ways_keepers x3 x1).bind fun u4 =>
        if x2 = (-9) then
          lp_X6_sureOf_L5 v_seen v_shore_ways_many f_seenRock f_shore_ways_keepers f_shore_told_flashes f_seenFlash x1 k n u4 (x3 + 1)
        else
          if x2 = u4 then
            lp_X6_sureOf_L5 v_seen v_shore_ways_many f_seenRock f_shore_ways_keepers f_shore_told_flashes f_seenFlash x1 k n u4 (x3 + 1)
          else
            some (-9)
def f_X6_sureOf (v_seen : Int32) (v_shore_ways_many : Int32) (f_seenRock : Nat → Int32) (f_shore_ways_keepers : Nat → Int32) (f_shore_told_flashes : Nat → Int32) (f_seenFlash : Nat → Int32) (x1 : Int32) : Option (Int32) :=
  lp_X6_sureOf_L5 v_seen v_shore_ways_many f_seenRock f_shore_ways_keepers f_shore_told_flashes f_seenFlash x1 (fun y7 y8 =>
      some y7)
    FU (-9) 0
def lp_X6_waysThatFit_L4 (v_seen : Int32) (v_shore_ways_many : Int32) (f_seenRock : Nat → Int32) (f_shore_ways_keepers : Nat → Int32) (f_shore_told_flashes : Nat → Int32) (f_seenFlash : Nat → Int32) (k : Int32 → Int32 → Option (Int32)) : Nat → Int32 → Int32 → Option (Int32)
  | 0, _, _ => none
  | n + 1, x1, x2 =>
    if v_shore_ways_many ≤ x2 then
      k x1 x2
    else
      (f_X6_fitsSeen v_seen f_seenRock f_shore_ways_keepers f_shore_told_flashes f_seenFlash x2).bind fun u2 =>
      if u2 = 0 then
        lp_X6_waysThatFit_L4 v_seen v_shore_ways_many f_seenRock f_shore_ways_keepers f_shore_told_flashes f_seenFlash k n x1 (x2 + 1)
      else
        lp_X6_waysThatFit_L4 v_seen v_shore_ways_many f_seenRock f_shore_ways_keepers f_shore_told_flashes f_seenFlash k n (x1 + 1) (x2 + 1)
def f_X6_waysThatFit (v_seen : Int32) (v_shore_ways_many : Int32) (f_seenRock : Nat → Int32) (f_shore_ways_keepers : Nat → Int32) (f_shore_told_flashes : Nat → Int32) (f_seenFlash : Nat → Int32) : Option (Int32) :=
  lp_X6_waysThatFit_L4 v_seen v_shore_ways_many f_seenRock f_shore_ways_keepers f_shore_told_flashes f_seenFlash (fun y4 y5 =>
      some y4)
    FU 0 0
def f_X6_fits (v_seen : Int32) (v_shore_ways_many : Int32) (f_seenRock : Nat → Int32) (v_shore_told_keepers : Int32) (f_shore_ways_keepers : Nat → Int32) (f_shore_told_flashes : Nat → Int32) (f_seenFlash : Nat → Int32) (x1 : Int32) : Option (Int32) :=
  if x1 = (-1) then
    (f_X6_waysThatFit v_seen v_shore_ways_many f_seenRock f_shore_ways_keepers f_shore_told_flashes f_seenFlash).bind fun u5 =>
    some u5
  else
    (f_X6_isRock v_shore_told_keepers x1).bind fun u2 =>
    if u2 = 0 then
      some (-1)
    else
      (f_X6_sureOf v_seen v_shore_ways_many f_seenRock f_shore_ways_keepers f_shore_told_flashes f_seenFlash x1).bind fun u4 =>
      some u4
def f_X6_markOfKeeper (v_traced : Int64) (f_shore_told_flashes : Nat → Int32) (x1 : Int32) : Option (Int32 × Int64) :=
  (f_X4_flashOf f_shore_told_flashes x1).bind fun u1 =>
  some (u1, (v_traced + 1))
def f_X6_markOfPilot (v_traced : Int64) (f_shore_told_flashes : Nat → Int32) (v_shore_ways_rocks : Int32) (v_present_way : Int32) (f_shore_ways_keepers : Nat → Int32) (x1 : Int32) : Option (Int32 × Int64) :=
  (f_X6_markOfKeeper (v_traced + 100) f_shore_told_flashes x1).bind fun u1 =>
  (f_X5_rockOf v_shore_ways_rocks f_shore_ways_keepers v_present_way x1).bind fun u2 =>
  some ((u1.1 - u2), u1.2)
def f_X6_markOfCat (v_traced : Int64) (f_shore_told_flashes : Nat → Int32) (v_shore_ways_rocks : Int32) (v_present_way : Int32) (f_shore_ways_keepers : Nat → Int32) (x1 : Int32) : Option (Int32 × Int64) :=
  (f_X6_markOfPilot (v_traced + 10000) f_shore_told_flashes v_shore_ways_rocks v_present_way f_shore_ways_keepers x1).bind fun u1 =>
  some ((u1.1 + x1), u1.2)
def f_X6_markOfSleeper (v_traced : Int64) (f_shore_told_flashes : Nat → Int32) (v_shore_ways_rocks : Int32) (v_present_way : Int32) (f_shore_ways_keepers : Nat → Int32) (x1 : Int32) : Option (Int32 × Int64) :=
  (f_X6_markOfKeeper (v_traced + 10) f_shore_told_flashes x1).bind fun u1 =>
  (f_X6_driftOf v_shore_ways_rocks v_present_way f_shore_ways_keepers x1).bind fun u2 =>
  some ((u1.1 + u2), u1.2)
def f_X6_markOfHorn (v_traced : Int64) (f_shore_told_flashes : Nat → Int32) (v_shore_ways_rocks : Int32) (v_present_way : Int32) (f_shore_ways_keepers : Nat → Int32) (x1 : Int32) : Option (Int32 × Int64) :=
  (f_X6_markOfSleeper (v_traced + 1000) f_shore_told_flashes v_shore_ways_rocks v_present_way f_shore_ways_keepers x1).bind fun u1 =>
  some ((u1.1 * 2), u1.2)
def f_X6_markOfWife (v_traced : Int64) (f_shore_told_flashes : Nat → Int32) (v_present_moons : Int32) (x1 : Int32) : Option (Int32 × Int64) :=
  (f_X6_markOfKeeper (v_traced + 100000) f_shore_told_flashes x1).bind fun u1 =>
  some ((u1.1 + v_present_moons), u1.2)
def f_X6_mark (v_traced : Int64) (v_shore_told_keepers : Int32) (f_shore_told_flashes : Nat → Int32) (v_present_way : Int32) (v_present_moons : Int32) (v_shore_ways_rocks : Int32) (f_shore_ways_keepers : Nat → Int32) (x1 : Int32) (x2 : Int32) : Option (Int32 × Int64) :=
  (f_X6_isKeeper v_shore_told_keepers x2).bind fun u1 =>
  if u1 = 0 then
    some ((-1000000), v_traced)
  else
    if x1 = 0 then
      (f_X6_markOfKeeper v_traced f_shore_told_flashes x2).bind fun u4 =>
      some (u4.1, u4.2)
    else
      if x1 = 1 then
        (f_X6_markOfSleeper v_traced f_shore_told_flashes v_shore_ways_rocks v_present_way f_shore_ways_keepers x2).bind fun u6 =>
        some (u6.1, u6.2)
      else
        if x1 = 2 then
          (f_X6_markOfPilot v_traced f_shore_told_flashes v_shore_ways_rocks v_present_way f_shore_ways_keepers x2).bind fun u8 =>
          some (u8.1, u8.2)
        else
          if x1 = 3 then
            (f_X6_markOfHorn v_traced f_shore_told_flashes v_shore_ways_rocks v_present_way f_shore_ways_keepers x2).bind fun u10 =>
            some (u10.1, u10.2)
          else
            if x1 = 4 then
              (f_X6_markOfCat v_traced f_shore_told_flashes v_shore_ways_rocks v_present_way f_shore_ways_keepers x2).bind fun u12 =>
              some (u12.1, u12.2)
            else
              if x1 = 5 then
                (f_X6_markOfWife v_traced f_shore_told_flashes v_present_moons x2).bind fun u14 =>
                some (u14.1, u14.2)
              else
                some ((-1000000), v_traced)
def f_X6_imageOf (x1 : Int32) : Option (Nat) :=
  if x1 = 0 then
    some 0
  else
    if x1 = 1 then
      some 1
    else
      some 2
def f_X6_keep (v_image0_way : Int32) (v_image0_moons : Int32) (v_image0_burnt : Int32) (v_image0_out : Int32) (v_image0_known : Int32) (v_image0_isKept : Int32) (v_image1_way : Int32) (v_image1_moons : Int32) (v_image1_burnt : Int32) (v_image1_out : Int32) (v_image1_known : Int32) (v_image1_isKept : Int32) (v_present_way : Int32) (v_present_moons : Int32) (v_present_burnt : Int32) (v_present_out : Int32) (v_present_known : Int32) (f_present_past : Nat → Int32) (f_image1_past : Nat → Int32) (f_image0_past : Nat → Int32) (x1 : Int32) : Option (Int32 × Int32 × Int32 × Int32 × Int32 × Int32 × Int32 × Int32 × Int32 × Int32 × Int32 × Int32 × Int32 × (Nat → Int32) × (Nat → Int32)) :=
  (f_X6_imageOf x1).bind fun u1 =>
  if u1 = 0 then
    (f_X0_become v_present_way v_present_moons v_present_burnt v_present_out v_present_known f_present_past f_image0_past).bind fun u2 =>
    some (v_present_moons, u2.1, u2.2.1, u2.2.2.1, u2.2.2.2.1, u2.2.2.2.2.1, 1, v_image1_way, v_image1_moons, v_image1_burnt, v_image1_out, v_image1_known, v_image1_isKept, f_image1_past, u2.2.2.2.2.2)
  else
    if u1 = 1 then
      (f_X0_become v_present_way v_present_moons v_present_burnt v_present_out v_present_known f_present_past f_image1_past).bind fun u3 =>
      some (v_present_moons, v_image0_way, v_image0_moons, v_image0_burnt, v_image0_out, v_image0_known, v_image0_isKept, u3.1, u3.2.1, u3.2.2.1, u3.2.2.2.1, u3.2.2.2.2.1, 1, u3.2.2.2.2.2, f_image0_past)
    else
      some ((-1), v_image0_way, v_image0_moons, v_image0_burnt, v_image0_out, v_image0_known, v_image0_isKept, v_image1_way, v_image1_moons, v_image1_burnt, v_image1_out, v_image1_known, v_image1_isKept, f_image1_past, f_image0_past)
def f_X6_back (v_image0_way : Int32) (v_image0_moons : Int32) (v_image0_burnt : Int32) (v_image0_out : Int32) (v_image0_known : Int32) (v_image0_isKept : Int32) (v_image1_way : Int32) (v_image1_moons : Int32) (v_image1_burnt : Int32) (v_image1_out : Int32) (v_image1_known : Int32) (v_image1_isKept : Int32) (v_present_way : Int32) (v_present_moons : Int32) (v_present_burnt : Int32) (v_present_out : Int32) (v_present_known : Int32) (f_image1_past : Nat → Int32) (f_present_past : Nat → Int32) (f_image0_past : Nat → Int32) (x1 : Int32) : Option (Int32 × Int32 × Int32 × Int32 × Int32 × Int32 × (Nat → Int32)) :=
  (f_X6_imageOf x1).bind fun u1 =>
  if u1 = 0 then
    if v_image0_isKept = 0 then
      some ((-2), v_present_way, v_present_moons, v_present_burnt, v_present_out, v_present_known, f_present_past)
    else
      (f_X0_become v_image0_way v_image0_moons v_image0_burnt v_image0_out v_image0_known f_image0_past f_present_past).bind fun u3 =>
      some (u3.2.1, u3.1, u3.2.1, u3.2.2.1, u3.2.2.2.1, u3.2.2.2.2.1, u3.2.2.2.2.2)
  else
    if u1 = 1 then
      if v_image1_isKept = 0 then
        some ((-2), v_present_way, v_present_moons, v_present_burnt, v_present_out, v_present_known, f_present_past)
      else
        (f_X0_become v_image1_way v_image1_moons v_image1_burnt v_image1_out v_image1_known f_image1_past f_present_past).bind fun u5 =>
        some (u5.2.1, u5.1, u5.2.1, u5.2.2.1, u5.2.2.2.1, u5.2.2.2.2.1, u5.2.2.2.2.2)
    else
      some ((-1), v_present_way, v_present_moons, v_present_burnt, v_present_out, v_present_known, f_present_past)
def f_X6_count (v_seen : Int32) (v_text_length : Int32) (v_present_known : Int32) (v_shore_told_keepers : Int32) (v_shore_told_hates : Int32) (v_shore_told_sight : Int32) (x1 : Int32) : Option (Int32) :=
  if x1 = 0 then
    some v_shore_told_keepers
  else
    if x1 = 1 then
      some v_shore_told_hates
    else
      if x1 = 2 then
        some v_shore_told_sight
      else
        if x1 = 3 then
          some v_seen
        else
          if x1 = 4 then
            some v_present_known
          else
            if x1 = 5 then
              some v_text_length
            else
              some (-1)
def f_X6_trace (v_traced : Int64) : Option (Int64) :=
  some v_traced
def f_X7_in (x0 : Int32) (x1 : Int32) (x2 : Int32) : Option (Int32) :=
  if x0 < x1 then
    some 0
  else
    if x2 < x0 then
      some 0
    else
      some 1
def f_X7_has (x0 : Int32) (x1 : Int32) : Option (Int32) :=
  if ((x0 >>> (x1 &&& 31)) &&& 1) = 1 then
    some 1
  else
    some 0
def lp_X7_bits_L4 (x0 : Int32) (k : Int32 → Int32 → Option (Int32)) : Nat → Int32 → Int32 → Option (Int32)
  | 0, _, _ => none
  | n + 1, x1, x2 =>
    if 6 ≤ x2 then
      k x1 x2
    else
      lp_X7_bits_L4 x0 k n (x1 + ((x0 >>> (x2 &&& 31)) &&& 1)) (x2 + 1)
def f_X7_bits (x0 : Int32) : Option (Int32) :=
  lp_X7_bits_L4 x0 (fun y2 y3 =>
      some y2)
    FU 0 0
def f_X7_isOne (v_keepers : Int32) (x1 : Int32) : Option (Int32) :=
  (f_X7_in x1 0 (v_keepers - 1)).bind fun u1 =>
  if ¬ (u1 = 0 ∨ u1 = 1) then none else
  some u1
def f_X7_type (v_texted : Int32) (f_text : Nat → Int32) (x1 : Int32) : Option (Int32 × Int32 × (Nat → Int32)) :=
  (f_X7_in x1 0 255).bind fun u1 =>
  if u1 = 0 then
    some ((-1), v_texted, f_text)
  else
    if v_texted = 120 then
      some ((-3), v_texted, f_text)
    else
      if v_texted < 0 ∨ 120 ≤ v_texted.toNatClampNeg then none else
      some ((v_texted + 1), (v_texted + 1), (upd f_text v_texted.toNatClampNeg x1))
def f_X7_clear (v_texted : Int32) : Option (Int32 × Int32) :=
  some (v_texted, 0)
def f_X7_letterAt (v_texted : Int32) (f_text : Nat → Int32) (x1 : Int32) : Option (Int32) :=
  if v_texted ≤ x1 then
    some (-1)
  else
    if x1 < 0 ∨ 120 ≤ x1.toNatClampNeg then none else
    some (f_text x1.toNatClampNeg)
def f_X7_isFigure (x0 : Int32) : Option (Int32) :=
  (f_X7_in x0 48 57).bind fun u1 =>
  if ¬ (u1 = 0 ∨ u1 = 1) then none else
  some u1
def f_X7_isLetter (x0 : Int32) : Option (Int32) :=
  (f_X7_in x0 97 122).bind fun u1 =>
  if ¬ (u1 = 0 ∨ u1 = 1) then none else
  some u1
def lp_X7_next_L0 (v_texted : Int32) (f_text : Nat → Int32) (k : Int32 → Option (Int32 × Int32 × Int32 × Int32)) : Nat → Int32 → Option (Int32 × Int32 × Int32 × Int32)
  | 0, _ => none
  | n + 1, v_cursor =>
    (f_X7_letterAt v_texted f_text v_cursor).bind fun u1 =>
    if u1 = 32 then
      lp_X7_next_L0 v_texted f_text k n (v_cursor + 1)
    else
      k v_cursor
def lp_X7_next_L180 (v_texted : Int32) (f_text : Nat → Int32) (k : Int32 → Option (Int32 × Int32 × Int32 × Int32)) : Nat → Int32 → Option (Int32 × Int32 × Int32 × Int32)
  | 0, _ => none
  | n + 1, v_cursor =>
    (f_X7_letterAt v_texted f_text v_cursor).bind fun u11 =>
    (f_X7_isLetter u11).bind fun u12 =>
    if u12 = 0 then
      k v_cursor
    else
      lp_X7_next_L180 v_texted f_text k n (v_cursor + 1)
def lp_X7_next_L67 (v_texted : Int32) (f_text : Nat → Int32) (k : Int32 → Int32 → Option (Int32 × Int32 × Int32 × Int32)) : Nat → Int32 → Int32 → Option (Int32 × Int32 × Int32 × Int32)
  | 0, _, _ => none
  | n + 1, v_cursor, v_number =>
    (f_X7_letterAt v_texted f_text v_cursor).bind fun u16 =>
    (f_X7_isFigure u16).bind fun u17 =>
    if u17 = 0 then
      k v_cursor v_number
    else
      if v_number ≤ 99 then
        (f_X7_letterAt v_texted f_text v_cursor).bind fun u20 =>
        lp_X7_next_L67 v_texted f_text k n (v_cursor + 1) (((10 * v_number) + u20) - 48)
      else
        lp_X7_next_L67 v_texted f_text k n (v_cursor + 1) v_number
def f_X7_next (v_texted : Int32) (v_cursor : Int32) (f_text : Nat → Int32) : Option (Int32 × Int32 × Int32 × Int32) :=
  lp_X7_next_L0 v_texted f_text (fun y3 =>
      (f_X7_letterAt v_texted f_text y3).bind fun u4 =>
      if 0 ≤ u4 then
        (f_X7_isFigure u4).bind fun u6 =>
        if u6 = 0 then
          (f_X7_isLetter u4).bind fun u8 =>
          if u8 = 0 then
            if u4 = 59 then
              some ((y3 + 1), y3, 3, 0)
            else
              some ((y3 + 1), y3, 4, 0)
          else
            lp_X7_next_L180 v_texted f_text (fun y14 =>
                if (y14 - y3) = 1 then
                  some (y14, y3, 1, u4)
                else
                  some (y14, y3, 1, 0))
              FU y3
        else
          lp_X7_next_L67 v_texted f_text (fun y21 y22 =>
              if 99 < y22 then
                some (y21, y3, 4, y22)
              else
                if u4 = 48 then
                  if (y21 - y3) ≤ 1 then
                    some (y21, y3, 2, y22)
                  else
                    some (y21, y3, 4, y22)
                else
                  some (y21, y3, 2, y22))
            FU y3 0
      else
        some (y3, y3, 0, 0))
    FU v_cursor
def f_X7_takes (v_texted : Int32) (v_cursor : Int32) (v_start : Int32) (v_token : Int32) (v_number : Int32) (v_isWrong : Int32) (f_text : Nat → Int32) (x1 : Int32) (x2 : Int32) (x3 : Int32) : Option (Int32 × Int32 × Int32 × Int32 × Int32 × Int32) :=
  if v_isWrong = 0 then
    if v_token = 2 then
      (f_X7_in v_number x1 x2).bind fun u3 =>
      if u3 = 0 then
        some (0, v_cursor, v_start, v_token, v_number, 1)
      else
        if v_number = x3 then
          some (0, v_cursor, v_start, v_token, v_number, 1)
        else
          (f_X7_next v_texted v_cursor f_text).bind fun u6 =>
          some (v_number, u6.1, u6.2.1, u6.2.2.1, u6.2.2.2, 0)
    else
      some (0, v_cursor, v_start, v_token, v_number, 1)
  else
    some (0, v_cursor, v_start, v_token, v_number, 1)
def f_X7_readKeeper (v_texted : Int32) (v_cursor : Int32) (v_start : Int32) (v_token : Int32) (v_number : Int32) (v_isWrong : Int32) (v_saidKeepers : Int32) (f_saidFlash : Nat → Int32) (f_text : Nat → Int32) (f_saidHates : Nat → Int32) : Option (Int32 × Int32 × Int32 × Int32 × Int32 × Int32 × (Nat → Int32) × (Nat → Int32)) :=
  (f_X7_takes v_texted v_cursor v_start v_token v_number v_isWrong f_text 1 9 (-1)).bind fun u1 =>
  if v_saidKeepers < 0 ∨ 6 ≤ v_saidKeepers.toNatClampNeg then none else
  if v_saidKeepers < 0 ∨ 6 ≤ v_saidKeepers.toNatClampNeg then none else
  some (u1.2.1, u1.2.2.1, u1.2.2.2.1, u1.2.2.2.2.1, u1.2.2.2.2.2, (v_saidKeepers + 1), (upd f_saidFlash v_saidKeepers.toNatClampNeg u1.1), (upd f_saidHates v_saidKeepers.toNatClampNeg 0))
def f_X7_readHate (v_texted : Int32) (v_cursor : Int32) (v_start : Int32) (v_token : Int32) (v_number : Int32) (v_isWrong : Int32) (v_saidKeepers : Int32) (v_saidMany : Int32) (f_text : Nat → Int32) (f_saidHates : Nat → Int32) : Option (Int32 × Int32 × Int32 × Int32 × Int32 × Int32 × (Nat → Int32)) :=
  (f_X7_takes v_texted v_cursor v_start v_token v_number v_isWrong f_text 0 (v_saidKeepers - 1) (-1)).bind fun u1 =>
  (f_X7_takes v_texted u1.2.1 u1.2.2.1 u1.2.2.2.1 u1.2.2.2.2.1 u1.2.2.2.2.2 f_text 0 (v_saidKeepers - 1) u1.1).bind fun u2 =>
  if u2.2.2.2.2.2 = 0 then
    if u1.1 < 0 ∨ 6 ≤ u1.1.toNatClampNeg then none else
    if u1.1 < 0 ∨ 6 ≤ u1.1.toNatClampNeg then none else
    if u2.1 < 0 ∨ 6 ≤ u2.1.toNatClampNeg then none else
    if u2.1 < 0 ∨ 6 ≤ u2.1.toNatClampNeg then none else
    some (u2.2.1, u2.2.2.1, u2.2.2.2.1, u2.2.2.2.2.1, u2.2.2.2.2.2, (v_saidMany + 1), (upd (upd f_saidHates u1.1.toNatClampNeg ((f_saidHates u1.1.toNatClampNeg) ||| (1 <<< (u2.1 &&& 31)))) u2.1.toNatClampNeg (((upd f_saidHates u1.1.toNatClampNeg ((f_saidHates u1.1.toNatClampNeg) ||| (1 <<< (u2.1 &&& 31)))) u2.1.toNatClampNeg) ||| (1 <<< (u1.1 &&& 31)))))
  else
    some (u2.2.1, u2.2.2.1, u2.2.2.2.1, u2.2.2.2.2.1, u2.2.2.2.2.2, (v_saidMany + 1), f_saidHates)
def f_X7_mayBegin (v_saidKeepers : Int32) (v_saidMany : Int32) (v_saidSight : Int32) (x1 : Int32) : Option (Int32) :=
  if x1 = 104 then
    if 8 ≤ v_saidMany then
      some 0
    else
      some 1
  else
    if x1 = 107 then
      if 6 ≤ v_saidKeepers then
        some 0
      else
        some 1
    else
      if x1 = 115 then
        if 0 ≤ v_saidSight then
          some 0
        else
          some 1
      else
        some 0
def f_X7_readItem (v_texted : Int32) (v_cursor : Int32) (v_start : Int32) (v_token : Int32) (v_number : Int32) (v_isWrong : Int32) (v_saidKeepers : Int32) (v_saidMany : Int32) (v_saidSight : Int32) (f_text : Nat → Int32) (f_saidFlash : Nat → Int32) (f_saidHates : Nat → Int32) : Option (Int32 × Int32 × Int32 × Int32 × Int32 × Int32 × Int32 × Int32 × (Nat → Int32) × (Nat → Int32)) :=
  if v_token = 1 then
    (f_X7_mayBegin v_saidKeepers v_saidMany v_saidSight v_number).bind fun u2 =>
    if u2 = 0 then
      some (v_cursor, v_start, v_token, v_number, 1, v_saidKeepers, v_saidMany, v_saidSight, f_saidFlash, f_saidHates)
    else
      (f_X7_next v_texted v_cursor f_text).bind fun u4 =>
      if v_number = 107 then
        (f_X7_readKeeper v_texted u4.1 u4.2.1 u4.2.2.1 u4.2.2.2 v_isWrong v_saidKeepers f_saidFlash f_text f_saidHates).bind fun u15 =>
        if u15.2.2.2.2.1 = 0 then
          if u15.2.2.1 = 3 then
            (f_X7_next v_texted u15.1 f_text).bind fun u18 =>
            some (u18.1, u18.2.1, u18.2.2.1, u18.2.2.2, 0, u15.2.2.2.2.2.1, v_saidMany, v_saidSight, u15.2.2.2.2.2.2.1, u15.2.2.2.2.2.2.2)
          else
            some (u15.1, u15.2.1, u15.2.2.1, u15.2.2.2.1, 1, u15.2.2.2.2.2.1, v_saidMany, v_saidSight, u15.2.2.2.2.2.2.1, u15.2.2.2.2.2.2.2)
        else
          some (u15.1, u15.2.1, u15.2.2.1, u15.2.2.2.1, 1, u15.2.2.2.2.2.1, v_saidMany, v_saidSight, u15.2.2.2.2.2.2.1, u15.2.2.2.2.2.2.2)
      else
        if v_number = 104 then
          (f_X7_readHate v_texted u4.1 u4.2.1 u4.2.2.1 u4.2.2.2 v_isWrong v_saidKeepers v_saidMany f_text f_saidHates).bind fun u11 =>
          if u11.2.2.2.2.1 = 0 then
            if u11.2.2.1 = 3 then
              (f_X7_next v_texted u11.1 f_text).bind fun u14 =>
              some (u14.1, u14.2.1, u14.2.2.1, u14.2.2.2, 0, v_saidKeepers, u11.2.2.2.2.2.1, v_saidSight, f_saidFlash, u11.2.2.2.2.2.2)
            else
              some (u11.1, u11.2.1, u11.2.2.1, u11.2.2.2.1, 1, v_saidKeepers, u11.2.2.2.2.2.1, v_saidSight, f_saidFlash, u11.2.2.2.2.2.2)
          else
            some (u11.1, u11.2.1, u11.2.2.1, u11.2.2.2.1, 1, v_saidKeepers, u11.2.2.2.2.2.1, v_saidSight, f_saidFlash, u11.2.2.2.2.2.2)
        else
          (f_X7_takes v_texted u4.1 u4.2.1 u4.2.2.1 u4.2.2.2 v_isWrong f_text 0 5 (-1)).bind fun u7 =>
          if u7.2.2.2.2.2 = 0 then
            if u7.2.2.2.1 = 3 then
              (f_X7_next v_texted u7.2.1 f_text).bind fun u10 =>
              some (u10.1, u10.2.1, u10.2.2.1, u10.2.2.2, 0, v_saidKeepers, v_saidMany, u7.1, f_saidFlash, f_saidHates)
            else
              some (u7.2.1, u7.2.2.1, u7.2.2.2.1, u7.2.2.2.2.1, 1, v_saidKeepers, v_saidMany, u7.1, f_saidFlash, f_saidHates)
          else
            some (u7.2.1, u7.2.2.1, u7.2.2.2.1, u7.2.2.2.2.1, 1, v_saidKeepers, v_saidMany, u7.1, f_saidFlash, f_saidHates)
  else
    some (v_cursor, v_start, v_token, v_number, 1, v_saidKeepers, v_saidMany, v_saidSight, f_saidFlash, f_saidHates)
def lp_X7_settles_L37 (f_saidFlash : Nat → Int32) (f_saidHates : Nat → Int32) (k : Int32 → (Nat → Int32) → (Nat → Int32) → Option (Int32 × Int32 × Int32 × Int32 × Int32 × (Nat → Int32) × (Nat → Int32) × (Nat → Int32) × (Nat → Int32))) : Nat → Int32 → (Nat → Int32) → (Nat → Int32) → Option (Int32 × Int32 × Int32 × Int32 × Int32 × (Nat → Int32) × (Nat → Int32) × (Nat → Int32) × (Nat → Int32))
  | 0, _, _, _ => none
  | n + 1, x1, f_flash, f_hates =>
    if 6 ≤ x1 then
      k x1 f_flash f_hates
    else
      if x1 < 0 ∨ 6 ≤ x1.toNatClampNeg then none else
      if x1 < 0 ∨ 6 ≤ x1.toNatClampNeg then none else
      if x1 < 0 ∨ 6 ≤ x1.toNatClampNeg then none else
      if x1 < 0 ∨ 6 ≤ x1.toNatClampNeg then none else
      lp_X7_settles_L37 f_saidFlash f_saidHates k n (x1 + 1) (upd f_flash x1.toNatClampNeg (f_saidFlash x1.toNatClampNeg)) (upd f_hates x1.toNatClampNeg (f_saidHates x1.toNatClampNeg))
def lp_X7_settles_L75  (k : Int32 → (Nat → Int32) → Option (Int32 × Int32 × Int32 × Int32 × Int32 × (Nat → Int32) × (Nat → Int32) × (Nat → Int32) × (Nat → Int32))) : Nat → Int32 → (Nat → Int32) → Option (Int32 × Int32 × Int32 × Int32 × Int32 × (Nat → Int32) × (Nat → Int32) × (Nat → Int32) × (Nat → Int32))
  | 0, _, _ => none
  | n + 1, x1, f_st =>
    if 100 ≤ x1 then
      k x1 f_st
    else
      if 6 ≤ x1 then
        if x1 < 0 ∨ 100 ≤ x1.toNatClampNeg then none else
        lp_X7_settles_L75  k n (x1 + 1) (upd f_st x1.toNatClampNeg 0)
      else
        if x1 < 0 ∨ 100 ≤ x1.toNatClampNeg then none else
        lp_X7_settles_L75  k n (x1 + 1) (upd f_st x1.toNatClampNeg x1)
def f_X7_settles (v_saidKeepers : Int32) (v_saidMany : Int32) (v_saidSight : Int32) (f_flash : Nat → Int32) (f_saidFlash : Nat → Int32) (f_hates : Nat → Int32) (f_saidHates : Nat → Int32) (f_st : Nat → Int32) (f_isKept : Nat → Int32) : Option (Int32 × Int32 × Int32 × Int32 × Int32 × (Nat → Int32) × (Nat → Int32) × (Nat → Int32) × (Nat → Int32)) :=
  if 0 ≤ v_saidSight then
    lp_X7_settles_L37 f_saidFlash f_saidHates (fun y7 y8 y9 =>
        lp_X7_settles_L75  (fun y14 y15 =>
            some (v_saidKeepers, v_saidMany, v_saidSight, 0, 0, y8, y9, y15, (upd (upd f_isKept (Int32.toNatClampNeg 0) (vp_nar .boolean 0)) (Int32.toNatClampNeg 1) (vp_nar .boolean 0))))
          FU 0 f_st)
      FU 0 f_flash f_hates
  else
    lp_X7_settles_L37 f_saidFlash f_saidHates (fun y16 y17 y18 =>
        lp_X7_settles_L75  (fun y19 y20 =>
            some (v_saidKeepers, v_saidMany, 1, 0, 0, y17, y18, y20, (upd (upd f_isKept (Int32.toNatClampNeg 0) (vp_nar .boolean 0)) (Int32.toNatClampNeg 1) (vp_nar .boolean 0))))
          FU 0 f_st)
      FU 0 f_flash f_hates
def lp_X7_coast_L34 (v_texted : Int32) (f_text : Nat → Int32) (k : Int32 → Int32 → Int32 → Int32 → Int32 → Int32 → Int32 → Int32 → Int32 → (Nat → Int32) → (Nat → Int32) → Option (Int32 × Int32 × Int32 × Int32 × Int32 × Int32 × Int32 × Int32 × Int32 × Int32 × Int32 × Int32 × Int32 × Int32 × Int32 × (Nat → Int32) × (Nat → Int32) × (Nat → Int32) × (Nat → Int32) × (Nat → Int32) × (Nat → Int32))) : Nat → Int32 → Int32 → Int32 → Int32 → Int32 → Int32 → Int32 → Int32 → Int32 → (Nat → Int32) → (Nat → Int32) → Option (Int32 × Int32 × Int32 × Int32 × Int32 × Int32 × Int32 × Int32 × Int32 × Int32 × Int32 × Int32 × Int32 × Int32 × Int32 × (Nat → Int32) × (Nat → Int32) × (Nat → Int32) × (Nat → Int32) × (Nat → Int32) × (Nat → Int32))
  | 0, _, _, _, _, _, _, _, _, _, _, _ => none
  | n + 1, v_cursor, v_start, v_token, v_number, v_isWrong, v_items, v_saidKeepers, v_saidMany, v_saidSight, f_saidFlash, f_saidHates =>
    if v_token = 0 then
      k v_cursor v_start v_token v_number v_isWrong v_items v_saidKeepers v_saidMany v_saidSight f_saidFlash f_saidHates
    else
      if v_isWrong = 0 then
        (f_X7_readItem v_texted v_cursor v_start v_token v_number v_isWrong v_saidKeepers v_saidMany v_saidSight f_text f_saidFlash f_saidHates).bind fun u4 =>
        lp_X7_coast_L34 v_texted f_text k n u4.1 u4.2.1 u4.2.2.1 u4.2.2.2.1 u4.2.2.2.2.1 (v_items + 1) u4.2.2.2.2.2.1 u4.2.2.2.2.2.2.1 u4.2.2.2.2.2.2.2.1 u4.2.2.2.2.2.2.2.2.1 u4.2.2.2.2.2.2.2.2.2
      else
        k v_cursor v_start v_token v_number v_isWrong v_items v_saidKeepers v_saidMany v_saidSight f_saidFlash f_saidHates
def f_X7_coast (v_keepers : Int32) (v_hatesMany : Int32) (v_sight : Int32) (v_seenMany : Int32) (v_texted : Int32) (f_text : Nat → Int32) (f_saidFlash : Nat → Int32) (f_saidHates : Nat → Int32) (f_flash : Nat → Int32) (f_hates : Nat → Int32) (f_st : Nat → Int32) (f_isKept : Nat → Int32) : Option (Int32 × Int32 × Int32 × Int32 × Int32 × Int32 × Int32 × Int32 × Int32 × Int32 × Int32 × Int32 × Int32 × Int32 × Int32 × (Nat → Int32) × (Nat → Int32) × (Nat → Int32) × (Nat → Int32) × (Nat → Int32) × (Nat → Int32)) :=
  (f_X7_next v_texted 0 f_text).bind fun u1 =>
  lp_X7_coast_L34 v_texted f_text (fun y5 y6 y7 y8 y9 y10 y11 y12 y13 y14 y15 =>
      if y9 = 0 then
        (f_X7_settles y11 y12 y13 f_flash y14 f_hates y15 f_st f_isKept).bind fun u17 =>
        some (y10, u17.1, u17.2.1, u17.2.2.1, u17.2.2.2.1, u17.2.2.2.2.1, y5, y6, y7, y8, y9, y10, y11, y12, y13, y14, y15, u17.2.2.2.2.2.1, u17.2.2.2.2.2.2.1, u17.2.2.2.2.2.2.2.1, u17.2.2.2.2.2.2.2.2)
      else
        some (((-10) - y6), v_keepers, v_hatesMany, v_sight, v_seenMany, v_texted, y5, y6, y7, y8, y9, y10, y11, y12, y13, y14, y15, f_flash, f_hates, f_st, f_isKept))
    FU u1.1 u1.2.1 u1.2.2.1 u1.2.2.2 0 0 0 0 (-1) f_saidFlash f_saidHates
def lp_X7_asItIs_L2 (f_st : Nat → Int32) (k : Int32 → (Nat → Int32) → Option ((Nat → Int32))) : Nat → Int32 → (Nat → Int32) → Option ((Nat → Int32))
  | 0, _, _ => none
  | n + 1, x1, f_at =>
    if 6 ≤ x1 then
      k x1 f_at
    else
      if x1 < 0 ∨ 100 ≤ x1.toNatClampNeg then none else
      if x1 < 0 ∨ 6 ≤ x1.toNatClampNeg then none else
      lp_X7_asItIs_L2 f_st k n (x1 + 1) (upd f_at x1.toNatClampNeg (f_st x1.toNatClampNeg))
def f_X7_asItIs (f_at : Nat → Int32) (f_st : Nat → Int32) : Option ((Nat → Int32)) :=
  lp_X7_asItIs_L2 f_st (fun y4 y5 =>
      some y5)
    FU 0 f_at
def lp_X7_rockOf_L2 (n_a1 : Nat) (f_a1 : Nat → Int32) (x2 : Int32) (k : Int32 → Option (Int32)) : Nat → Int32 → Option (Int32)
  | 0, _ => none
  | n + 1, x3 =>
    if x3 < 0 ∨ n_a1 ≤ x3.toNatClampNeg then none else
    if (f_a1 x3.toNatClampNeg) = x2 then
      k x3
    else
      lp_X7_rockOf_L2 n_a1 f_a1 x2 k n (x3 + 1)
def f_X7_rockOf (n_a1 : Nat) (f_a1 : Nat → Int32) (x2 : Int32) : Option (Int32) :=
  lp_X7_rockOf_L2 n_a1 f_a1 x2 (fun y3 =>
      some y3)
    FU 0
def f_X7_driftOf (f_st : Nat → Int32) (x1 : Int32) : Option (Int32) :=
  (f_X7_rockOf 100 f_st x1).bind fun u1 =>
  if 0 ≤ (u1 - x1) then
    some (u1 - x1)
  else
    some (-(u1 - x1))
def lp_X7_likesOf_L17 (v_keepers : Int32) (v_sight : Int32) (n_a1 : Nat) (f_a1 : Nat → Int32) (f_flash : Nat → Int32) (x3 : Int32) (k : Int32 → Int32 → Option (Int32)) : Nat → Int32 → Int32 → Option (Int32)
  | 0, _, _ => none
  | n + 1, x2, x4 =>
    if v_keepers ≤ x4 then
      k x2 x4
    else
      if v_sight < (x4 - x3) then
        k x2 x4
      else
        if x3 < 0 ∨ n_a1 ≤ x3.toNatClampNeg then none else
        if (f_a1 x3.toNatClampNeg) < 0 ∨ 6 ≤ (f_a1 x3.toNatClampNeg).toNatClampNeg then none else
        if x4 < 0 ∨ n_a1 ≤ x4.toNatClampNeg then none else
        if (f_a1 x4.toNatClampNeg) < 0 ∨ 6 ≤ (f_a1 x4.toNatClampNeg).toNatClampNeg then none else
        if (f_flash (f_a1 x3.toNatClampNeg).toNatClampNeg) = (f_flash (f_a1 x4.toNatClampNeg).toNatClampNeg) then
          lp_X7_likesOf_L17 v_keepers v_sight n_a1 f_a1 f_flash x3 k n (x2 + 1) (x4 + 1)
        else
          lp_X7_likesOf_L17 v_keepers v_sight n_a1 f_a1 f_flash x3 k n (x2 + 0) (x4 + 1)
def lp_X7_likesOf_L4 (v_keepers : Int32) (v_sight : Int32) (n_a1 : Nat) (f_a1 : Nat → Int32) (f_flash : Nat → Int32) (k : Int32 → Int32 → Option (Int32)) : Nat → Int32 → Int32 → Option (Int32)
  | 0, _, _ => none
  | n + 1, x2, x3 =>
    if v_keepers ≤ x3 then
      k x2 x3
    else
      lp_X7_likesOf_L17 v_keepers v_sight n_a1 f_a1 f_flash x3 (fun y9 y10 =>
          lp_X7_likesOf_L4 v_keepers v_sight n_a1 f_a1 f_flash k n y9 (x3 + 1))
        FU x2 (x3 + 1)
def f_X7_likesOf (v_keepers : Int32) (v_sight : Int32) (n_a1 : Nat) (f_a1 : Nat → Int32) (f_flash : Nat → Int32) : Option (Int32) :=
  lp_X7_likesOf_L4 v_keepers v_sight n_a1 f_a1 f_flash (fun y11 y12 =>
      some y11)
    FU 0 0
def f_X7_isChange (v_keepers : Int32) (x1 : Int32) : Option (Int32) :=
  if v_keepers = 0 then
    if x1 = 0 then
      some 1
    else
      some 0
  else
    (f_X7_in x1 0 ((1 <<< ((v_keepers - 1) &&& 31)) - 1)).bind fun u2 =>
    if ¬ (u2 = 0 ∨ u2 = 1) then none else
    some u2
def lp_X7_mayChange_L17 (v_keepers : Int32) (n_a1 : Nat) (f_a1 : Nat → Int32) (f_hates : Nat → Int32) (x2 : Int32) (k : Int32 → Int32 → Option (Int32)) : Nat → Int32 → Int32 → Option (Int32)
  | 0, _, _ => none
  | n + 1, x3, x4 =>
    if v_keepers ≤ (x4 + 1) then
      k x3 x4
    else
      if x3 = 0 then
        lp_X7_mayChange_L17 v_keepers n_a1 f_a1 f_hates x2 k n 0 (x4 + 1)
      else
        (f_X7_has x2 x4).bind fun u4 =>
        if u4 = 0 then
          lp_X7_mayChange_L17 v_keepers n_a1 f_a1 f_hates x2 k n 1 (x4 + 1)
        else
          if x4 < 0 ∨ n_a1 ≤ x4.toNatClampNeg then none else
          if (f_a1 x4.toNatClampNeg) < 0 ∨ 6 ≤ (f_a1 x4.toNatClampNeg).toNatClampNeg then none else
          if (x4 + 1) < 0 ∨ n_a1 ≤ (x4 + 1).toNatClampNeg then none else
          (f_X7_has (f_hates (f_a1 x4.toNatClampNeg).toNatClampNeg) (f_a1 (x4 + 1).toNatClampNeg)).bind fun u9 =>
          if u9 = 0 then
            lp_X7_mayChange_L17 v_keepers n_a1 f_a1 f_hates x2 k n 1 (x4 + 1)
          else
            lp_X7_mayChange_L17 v_keepers n_a1 f_a1 f_hates x2 k n 0 (x4 + 1)
def f_X7_mayChange (v_keepers : Int32) (n_a1 : Nat) (f_a1 : Nat → Int32) (f_hates : Nat → Int32) (x2 : Int32) : Option (Int32) :=
  if (x2 &&& (x2 >>> (1 &&& 31))) = 0 then
    lp_X7_mayChange_L17 v_keepers n_a1 f_a1 f_hates x2 (fun y14 y15 =>
        if ¬ (y14 = 0 ∨ y14 = 1) then none else
        some y14)
      FU 1 0
  else
    lp_X7_mayChange_L17 v_keepers n_a1 f_a1 f_hates x2 (fun y11 y12 =>
        if ¬ (y11 = 0 ∨ y11 = 1) then none else
        some y11)
      FU 0 0
def lp_X7_changes_L2 (v_keepers : Int32) (n_a1 : Nat) (x2 : Int32) (k : Int32 → (Nat → Int32) → Option ((Nat → Int32))) : Nat → Int32 → (Nat → Int32) → Option ((Nat → Int32))
  | 0, _, _ => none
  | n + 1, x3, f_a1 =>
    if v_keepers ≤ (x3 + 1) then
      k x3 f_a1
    else
      (f_X7_has x2 x3).bind fun u2 =>
      if u2 = 0 then
        lp_X7_changes_L2 v_keepers n_a1 x2 k n (x3 + 1) f_a1
      else
        if x3 < 0 ∨ n_a1 ≤ x3.toNatClampNeg then none else
        if (x3 + 1) < 0 ∨ n_a1 ≤ (x3 + 1).toNatClampNeg then none else
        if x3 < 0 ∨ n_a1 ≤ x3.toNatClampNeg then none else
        if (x3 + 1) < 0 ∨ n_a1 ≤ (x3 + 1).toNatClampNeg then none else
        lp_X7_changes_L2 v_keepers n_a1 x2 k n (x3 + 1) (upd (upd f_a1 x3.toNatClampNeg (f_a1 (x3 + 1).toNatClampNeg)) (x3 + 1).toNatClampNeg (f_a1 x3.toNatClampNeg))
def f_X7_changes (v_keepers : Int32) (n_a1 : Nat) (f_a1 : Nat → Int32) (x2 : Int32) : Option ((Nat → Int32)) :=
  lp_X7_changes_L2 v_keepers n_a1 x2 (fun y8 y9 =>
      some y9)
    FU 0 f_a1
def f_X7_keeper (v_keepers : Int32) (f_hates : Nat → Int32) (f_st : Nat → Int32) (f_flash : Nat → Int32) (x1 : Int32) (x2 : Int32) : Option (Int32) :=
  (f_X7_isOne v_keepers x1).bind fun u1 =>
  if u1 = 0 then
    some (-1)
  else
    if x2 = 0 then
      if x1 < 0 ∨ 6 ≤ x1.toNatClampNeg then none else
      some (f_flash x1.toNatClampNeg)
    else
      if x2 = 1 then
        (f_X7_rockOf 100 f_st x1).bind fun u6 =>
        some u6
      else
        if x2 = 2 then
          (f_X7_driftOf f_st x1).bind fun u8 =>
          some u8
        else
          if x2 = 3 then
            (f_X7_has (f_st (Int32.toNatClampNeg 8)) x1).bind fun u10 =>
            if u10 = 0 then
              some 0
            else
              some 1
          else
            if x2 = 4 then
              if x1 < 0 ∨ 6 ≤ x1.toNatClampNeg then none else
              some (f_hates x1.toNatClampNeg)
            else
              some (-1)
def f_X7_rock (v_keepers : Int32) (f_st : Nat → Int32) (x1 : Int32) : Option (Int32) :=
  (f_X7_isOne v_keepers x1).bind fun u1 =>
  if u1 = 0 then
    some (-1)
  else
    if x1 < 0 ∨ 100 ≤ x1.toNatClampNeg then none else
    some (f_st x1.toNatClampNeg)
def lp_X7_remembers_L69 (x1 : Int32) (k : Int32 → (Nat → Int32) → Option ((Nat → Int32))) : Nat → Int32 → (Nat → Int32) → Option ((Nat → Int32))
  | 0, _, _ => none
  | n + 1, x2, f_st =>
    if 9 ≤ x2 then
      k x2 f_st
    else
      if x2 < 0 ∨ 100 ≤ x2.toNatClampNeg then none else
      if (x1 + x2) < 0 ∨ 100 ≤ (x1 + x2).toNatClampNeg then none else
      lp_X7_remembers_L69 x1 k n (x2 + 1) (upd f_st (x1 + x2).toNatClampNeg (f_st x2.toNatClampNeg))
def lp_X7_remembers_L15  (k : Int32 → (Nat → Int32) → Option ((Nat → Int32))) : Nat → Int32 → (Nat → Int32) → Option ((Nat → Int32))
  | 0, _, _ => none
  | n + 1, x1, f_st =>
    if 91 ≤ x1 then
      k x1 f_st
    else
      if (x1 + 9) < 0 ∨ 100 ≤ (x1 + 9).toNatClampNeg then none else
      if x1 < 0 ∨ 100 ≤ x1.toNatClampNeg then none else
      lp_X7_remembers_L15  k n (x1 + 1) (upd f_st x1.toNatClampNeg (f_st (x1 + 9).toNatClampNeg))
def f_X7_remembers (f_st : Nat → Int32) : Option ((Nat → Int32)) :=
  if (f_st (Int32.toNatClampNeg 9)) = 10 then
    lp_X7_remembers_L15  (fun y10 y11 =>
        lp_X7_remembers_L69 (10 + (9 * ((upd y11 (Int32.toNatClampNeg 9) ((y11 (Int32.toNatClampNeg 9)) - 1)) (Int32.toNatClampNeg 9)))) (fun y12 y13 =>
            some (upd y13 (Int32.toNatClampNeg 9) ((y13 (Int32.toNatClampNeg 9)) + 1)))
          FU 0 (upd y11 (Int32.toNatClampNeg 9) ((y11 (Int32.toNatClampNeg 9)) - 1)))
      FU 10 f_st
  else
    lp_X7_remembers_L69 (10 + (9 * (f_st (Int32.toNatClampNeg 9)))) (fun y5 y6 =>
        some (upd y6 (Int32.toNatClampNeg 9) ((y6 (Int32.toNatClampNeg 9)) + 1)))
      FU 0 f_st
def lp_X7_moon_L63 (v_keepers : Int32) (f_flash : Nat → Int32) (k : Int32 → (Nat → Int32) → Option (Int32 × (Nat → Int32))) : Nat → Int32 → (Nat → Int32) → Option (Int32 × (Nat → Int32))
  | 0, _, _ => none
  | n + 1, x2, f_st =>
    if v_keepers ≤ x2 then
      k x2 f_st
    else
      (f_X7_has (f_st (Int32.toNatClampNeg 8)) x2).bind fun u9 =>
      if u9 = 0 then
        if x2 < 0 ∨ 6 ≤ x2.toNatClampNeg then none else
        lp_X7_moon_L63 v_keepers f_flash k n (x2 + 1) (upd f_st (Int32.toNatClampNeg 7) ((f_st (Int32.toNatClampNeg 7)) + (f_flash x2.toNatClampNeg)))
      else
        lp_X7_moon_L63 v_keepers f_flash k n (x2 + 1) (upd f_st (Int32.toNatClampNeg 7) ((f_st (Int32.toNatClampNeg 7)) + 0))
def f_X7_moon (v_keepers : Int32) (f_st : Nat → Int32) (f_hates : Nat → Int32) (f_flash : Nat → Int32) (x1 : Int32) : Option (Int32 × (Nat → Int32)) :=
  (f_X7_isChange v_keepers x1).bind fun u1 =>
  if u1 = 0 then
    some ((-1), f_st)
  else
    (f_X7_mayChange v_keepers 100 f_st f_hates x1).bind fun u3 =>
    if u3 = 0 then
      some ((-2), f_st)
    else
      if (f_st (Int32.toNatClampNeg 6)) = 99 then
        some ((-2), f_st)
      else
        (f_X7_remembers f_st).bind fun u6 =>
        (f_X7_changes v_keepers 100 u6 x1).bind fun u7 =>
        lp_X7_moon_L63 v_keepers f_flash (fun y12 y13 =>
            (f_X7_bits x1).bind fun u14 =>
            some ((2 * u14), y13))
          FU 0 (upd u7 (Int32.toNatClampNeg 6) ((u7 (Int32.toNatClampNeg 6)) + 1))
def f_X7_puts (v_keepers : Int32) (f_st : Nat → Int32) (x1 : Int32) (x2 : Int32) : Option (Int32 × (Nat → Int32)) :=
  (f_X7_isOne v_keepers x1).bind fun u1 =>
  if u1 = 0 then
    some ((-1), f_st)
  else
    (f_X7_in x2 0 1).bind fun u3 =>
    if u3 = 0 then
      some ((-1), f_st)
    else
      (f_X7_has (f_st (Int32.toNatClampNeg 8)) x1).bind fun u5 =>
      if x2 = 1 then
        if u5 = 1 then
          some ((-2), f_st)
        else
          (f_X7_remembers f_st).bind fun u11 =>
          (f_X7_bits ((upd u11 (Int32.toNatClampNeg 8) ((u11 (Int32.toNatClampNeg 8)) ^^^ (1 <<< (x1 &&& 31)))) (Int32.toNatClampNeg 8))).bind fun u12 =>
          some (u12, (upd u11 (Int32.toNatClampNeg 8) ((u11 (Int32.toNatClampNeg 8)) ^^^ (1 <<< (x1 &&& 31)))))
      else
        if u5 = 0 then
          some ((-2), f_st)
        else
          (f_X7_remembers f_st).bind fun u8 =>
          (f_X7_bits ((upd u8 (Int32.toNatClampNeg 8) ((u8 (Int32.toNatClampNeg 8)) ^^^ (1 <<< (x1 &&& 31)))) (Int32.toNatClampNeg 8))).bind fun u9 =>
          some (u9, (upd u8 (Int32.toNatClampNeg 8) ((u8 (Int32.toNatClampNeg 8)) ^^^ (1 <<< (x1 &&& 31)))))
def lp_X7_undo_L40 (x1 : Int32) (k : Int32 → (Nat → Int32) → Option (Int32 × (Nat → Int32))) : Nat → Int32 → (Nat → Int32) → Option (Int32 × (Nat → Int32))
  | 0, _, _ => none
  | n + 1, x2, f_st =>
    if 9 ≤ x2 then
      k x2 f_st
    else
      if (x1 + x2) < 0 ∨ 100 ≤ (x1 + x2).toNatClampNeg then none else
      if x2 < 0 ∨ 100 ≤ x2.toNatClampNeg then none else
      lp_X7_undo_L40 x1 k n (x2 + 1) (upd f_st x2.toNatClampNeg (f_st (x1 + x2).toNatClampNeg))
def f_X7_undo (f_st : Nat → Int32) : Option (Int32 × (Nat → Int32)) :=
  if (f_st (Int32.toNatClampNeg 9)) = 0 then
    some ((-2), f_st)
  else
    lp_X7_undo_L40 (10 + (9 * ((upd f_st (Int32.toNatClampNeg 9) ((f_st (Int32.toNatClampNeg 9)) - 1)) (Int32.toNatClampNeg 9)))) (fun y5 y6 =>
        some ((y6 (Int32.toNatClampNeg 9)), y6))
      FU 0 (upd f_st (Int32.toNatClampNeg 9) ((f_st (Int32.toNatClampNeg 9)) - 1))
def lp_X7_calm_L6 (v_keepers : Int32) (v_sight : Int32) (f_st : Nat → Int32) (f_hates : Nat → Int32) (f_flash : Nat → Int32) (k : Int32 → Int32 → Int32 → (Nat → Int32) → Option (Int32 × (Nat → Int32))) : Nat → Int32 → Int32 → Int32 → (Nat → Int32) → Option (Int32 × (Nat → Int32))
  | 0, _, _, _, _ => none
  | n + 1, x1, x2, x3, f_at =>
    if 32 ≤ x3 then
      k x1 x2 x3 f_at
    else
      (f_X7_isChange v_keepers x3).bind fun u2 =>
      if u2 = 0 then
        lp_X7_calm_L6 v_keepers v_sight f_st f_hates f_flash k n x1 x2 (x3 + 1) f_at
      else
        (f_X7_mayChange v_keepers 100 f_st f_hates x3).bind fun u4 =>
        if u4 = 0 then
          lp_X7_calm_L6 v_keepers v_sight f_st f_hates f_flash k n x1 x2 (x3 + 1) f_at
        else
          (f_X7_asItIs f_at f_st).bind fun u6 =>
          (f_X7_changes v_keepers 6 u6 x3).bind fun u7 =>
          (f_X7_likesOf v_keepers v_sight 6 u7 f_flash).bind fun u8 =>
          if x2 < 0 then
            lp_X7_calm_L6 v_keepers v_sight f_st f_hates f_flash k n x3 u8 (x3 + 1) u7
          else
            if u8 < x2 then
              lp_X7_calm_L6 v_keepers v_sight f_st f_hates f_flash k n x3 u8 (x3 + 1) u7
            else
              if u8 = x2 then
                (f_X7_bits x3).bind fun u12 =>
                (f_X7_bits x1).bind fun u13 =>
                if u12 ≤ u13 then
                  lp_X7_calm_L6 v_keepers v_sight f_st f_hates f_flash k n x1 x2 (x3 + 1) u7
                else
                  lp_X7_calm_L6 v_keepers v_sight f_st f_hates f_flash k n x3 u8 (x3 + 1) u7
              else
                lp_X7_calm_L6 v_keepers v_sight f_st f_hates f_flash k n x1 x2 (x3 + 1) u7
def f_X7_calm (v_keepers : Int32) (v_sight : Int32) (f_st : Nat → Int32) (f_hates : Nat → Int32) (f_at : Nat → Int32) (f_flash : Nat → Int32) : Option (Int32 × (Nat → Int32)) :=
  lp_X7_calm_L6 v_keepers v_sight f_st f_hates f_flash (fun y15 y16 y17 y18 =>
      some (y15, y18))
    FU 0 (-1) 0 f_at
def lp_X7_now_L4 (v_keepers : Int32) (f_st : Nat → Int32) (k : Int32 → Int32 → Option (Int32 × (Nat → Int32))) : Nat → Int32 → Int32 → Option (Int32 × (Nat → Int32))
  | 0, _, _ => none
  | n + 1, x2, x3 =>
    if v_keepers ≤ x3 then
      k x2 x3
    else
      (f_X7_driftOf f_st x3).bind fun u2 =>
      lp_X7_now_L4 v_keepers f_st k n (x2 + u2) (x3 + 1)
def f_X7_now (v_keepers : Int32) (v_sight : Int32) (f_st : Nat → Int32) (f_hates : Nat → Int32) (f_at : Nat → Int32) (f_flash : Nat → Int32) (x1 : Int32) : Option (Int32 × (Nat → Int32)) :=
  lp_X7_now_L4 v_keepers f_st (fun y3 y4 =>
      if x1 = 0 then
        some ((f_st (Int32.toNatClampNeg 6)), f_at)
      else
        if x1 = 1 then
          some ((f_st (Int32.toNatClampNeg 7)), f_at)
        else
          if x1 = 2 then
            some ((f_st (Int32.toNatClampNeg 8)), f_at)
          else
            if x1 = 3 then
              (f_X7_likesOf v_keepers v_sight 100 f_st f_flash).bind fun u9 =>
              some (u9, f_at)
            else
              if x1 = 4 then
                some (y3, f_at)
              else
                if x1 = 5 then
                  (f_X7_calm v_keepers v_sight f_st f_hates f_at f_flash).bind fun u12 =>
                  some (u12.1, u12.2)
                else
                  some ((-1), f_at))
    FU 0 0
def lp_X7_wayOf_L20 (v_keepers : Int32) (n_a1 : Nat) (f_a1 : Nat → Int32) (x3 : Int32) (k : Int32 → Int32 → Option (Int32)) : Nat → Int32 → Int32 → Option (Int32)
  | 0, _, _ => none
  | n + 1, x4, x5 =>
    if v_keepers ≤ x5 then
      k x4 x5
    else
      if x5 < 0 ∨ n_a1 ≤ x5.toNatClampNeg then none else
      if x3 < 0 ∨ n_a1 ≤ x3.toNatClampNeg then none else
      if (f_a1 x3.toNatClampNeg) ≤ (f_a1 x5.toNatClampNeg) then
        lp_X7_wayOf_L20 v_keepers n_a1 f_a1 x3 k n (x4 + 0) (x5 + 1)
      else
        lp_X7_wayOf_L20 v_keepers n_a1 f_a1 x3 k n (x4 + 1) (x5 + 1)
def lp_X7_wayOf_L4 (v_keepers : Int32) (n_a1 : Nat) (f_a1 : Nat → Int32) (k : Int32 → Int32 → Option (Int32)) : Nat → Int32 → Int32 → Option (Int32)
  | 0, _, _ => none
  | n + 1, x2, x3 =>
    if v_keepers ≤ x3 then
      k x2 x3
    else
      lp_X7_wayOf_L20 v_keepers n_a1 f_a1 x3 (fun y6 y7 =>
          lp_X7_wayOf_L4 v_keepers n_a1 f_a1 k n ((x2 * (v_keepers - x3)) + y6) (x3 + 1))
        FU 0 (x3 + 1)
def f_X7_wayOf (v_keepers : Int32) (n_a1 : Nat) (f_a1 : Nat → Int32) : Option (Int32) :=
  lp_X7_wayOf_L4 v_keepers n_a1 f_a1 (fun y8 y9 =>
      some y8)
    FU 0 0
def lp_X7_isWay_L9 (v_keepers : Int32) (k : Int32 → Int32 → (Nat → Int32) → Option ((Nat → Int32) × (Nat → Int32))) : Nat → Int32 → Int32 → (Nat → Int32) → Option ((Nat → Int32) × (Nat → Int32))
  | 0, _, _, _ => none
  | n + 1, x2, x3, f_of =>
    if x3 < 0 then
      k x2 x3 f_of
    else
      if (v_keepers - x3) = 0 then none else
      if x3 < 0 ∨ 6 ≤ x3.toNatClampNeg then none else
      if (v_keepers - x3) = 0 then none else
      lp_X7_isWay_L9 v_keepers k n (x2 / (v_keepers - x3)) (x3 + (-1)) (upd f_of x3.toNatClampNeg (x2 - x2 / (v_keepers - x3) * (v_keepers - x3)))
def lp_X7_isWay_L68 (x3 : Int32) (k : Int32 → Int32 → Option ((Nat → Int32) × (Nat → Int32))) : Nat → Int32 → Int32 → Option ((Nat → Int32) × (Nat → Int32))
  | 0, _, _ => none
  | n + 1, x5, x6 =>
    (f_X7_has x3 x5).bind fun u10 =>
    if u10 = 0 then
      if x6 ≤ 0 then
        k x5 x6
      else
        (f_X7_has x3 x5).bind fun u15 =>
        if u15 = 0 then
          lp_X7_isWay_L68 x3 k n (x5 + 1) (x6 - 1)
        else
          lp_X7_isWay_L68 x3 k n (x5 + 1) (x6 - 0)
    else
      (f_X7_has x3 x5).bind fun u12 =>
      if u12 = 0 then
        lp_X7_isWay_L68 x3 k n (x5 + 1) (x6 - 1)
      else
        lp_X7_isWay_L68 x3 k n (x5 + 1) (x6 - 0)
def lp_X7_isWay_L47 (v_keepers : Int32) (f_of : Nat → Int32) (k : Int32 → Int32 → (Nat → Int32) → Option ((Nat → Int32) × (Nat → Int32))) : Nat → Int32 → Int32 → (Nat → Int32) → Option ((Nat → Int32) × (Nat → Int32))
  | 0, _, _, _ => none
  | n + 1, x3, x4, f_at =>
    if v_keepers ≤ x4 then
      k x3 x4 f_at
    else
      if x4 < 0 ∨ 6 ≤ x4.toNatClampNeg then none else
      lp_X7_isWay_L68 x3 (fun y17 y18 =>
          if x4 < 0 ∨ 6 ≤ x4.toNatClampNeg then none else
          lp_X7_isWay_L47 v_keepers f_of k n (x3 ||| (1 <<< (y17 &&& 31))) (x4 + 1) (upd f_at x4.toNatClampNeg y17))
        FU 0 (f_of x4.toNatClampNeg)
def f_X7_isWay (v_keepers : Int32) (f_of : Nat → Int32) (f_at : Nat → Int32) (x1 : Int32) : Option ((Nat → Int32) × (Nat → Int32)) :=
  lp_X7_isWay_L9 v_keepers (fun y5 y6 y7 =>
      lp_X7_isWay_L47 v_keepers y7 (fun y20 y21 y22 =>
          some (y7, y22))
        FU 0 0 f_at)
    FU x1 (v_keepers - 1) f_of
def f_X7_isSafe (v_keepers : Int32) (v_sight : Int32) (f_at : Nat → Int32) (f_flash : Nat → Int32) (x1 : Int32) : Option (Int32) :=
  if x1 = 0 then
    some 1
  else
    (f_X7_likesOf v_keepers v_sight 6 f_at f_flash).bind fun u2 =>
    if u2 = 0 then
      some 1
    else
      some 0
def lp_X7_findFar_L2  (k : Int32 → (Nat → Int32) → Option ((Nat → Int32) × (Nat → Int32) × (Nat → Int32) × (Nat → Int32))) : Nat → Int32 → (Nat → Int32) → Option ((Nat → Int32) × (Nat → Int32) × (Nat → Int32) × (Nat → Int32))
  | 0, _, _ => none
  | n + 1, x3, f_far =>
    if 720 ≤ x3 then
      k x3 f_far
    else
      if x3 < 0 ∨ 720 ≤ x3.toNatClampNeg then none else
      lp_X7_findFar_L2  k n (x3 + 1) (upd f_far x3.toNatClampNeg (-1))
def lp_X7_findFar_L50 (v_keepers : Int32) (v_sight : Int32) (f_hates : Nat → Int32) (f_flash : Nat → Int32) (x2 : Int32) (x4 : Int32) (k : Int32 → Int32 → (Nat → Int32) → (Nat → Int32) → (Nat → Int32) → (Nat → Int32) → Option ((Nat → Int32) × (Nat → Int32) × (Nat → Int32) × (Nat → Int32))) : Nat → Int32 → Int32 → (Nat → Int32) → (Nat → Int32) → (Nat → Int32) → (Nat → Int32) → Option ((Nat → Int32) × (Nat → Int32) × (Nat → Int32) × (Nat → Int32))
  | 0, _, _, _, _, _, _ => none
  | n + 1, x3, x5, f_far, f_line, f_of, f_at =>
    if 32 ≤ x5 then
      k x3 x5 f_far f_line f_of f_at
    else
      if x4 < 0 ∨ 720 ≤ x4.toNatClampNeg then none else
      (f_X7_isWay v_keepers f_of f_at (f_line x4.toNatClampNeg)).bind fun u9 =>
      (f_X7_isChange v_keepers x5).bind fun u10 =>
      if u10 = 0 then
        lp_X7_findFar_L50 v_keepers v_sight f_hates f_flash x2 x4 k n x3 (x5 + 1) f_far f_line u9.1 u9.2
      else
        (f_X7_mayChange v_keepers 6 u9.2 f_hates x5).bind fun u12 =>
        if u12 = 0 then
          lp_X7_findFar_L50 v_keepers v_sight f_hates f_flash x2 x4 k n x3 (x5 + 1) f_far f_line u9.1 u9.2
        else
          (f_X7_changes v_keepers 6 u9.2 x5).bind fun u14 =>
          (f_X7_wayOf v_keepers 6 u14).bind fun u15 =>
          if u15 < 0 ∨ 720 ≤ u15.toNatClampNeg then none else
          if 0 ≤ (f_far u15.toNatClampNeg) then
            lp_X7_findFar_L50 v_keepers v_sight f_hates f_flash x2 x4 k n x3 (x5 + 1) f_far f_line u9.1 u14
          else
            (f_X7_isSafe v_keepers v_sight u14 f_flash x2).bind fun u18 =>
            if u18 = 0 then
              lp_X7_findFar_L50 v_keepers v_sight f_hates f_flash x2 x4 k n x3 (x5 + 1) f_far f_line u9.1 u14
            else
              if x4 < 0 ∨ 720 ≤ x4.toNatClampNeg then none else
              if (f_line x4.toNatClampNeg) < 0 ∨ 720 ≤ (f_line x4.toNatClampNeg).toNatClampNeg then none else
              if u15 < 0 ∨ 720 ≤ u15.toNatClampNeg then none else
              if x3 < 0 ∨ 720 ≤ x3.toNatClampNeg then none else
              lp_X7_findFar_L50 v_keepers v_sight f_hates f_flash x2 x4 k n (x3 + 1) (x5 + 1) (upd f_far u15.toNatClampNeg ((f_far (f_line x4.toNatClampNeg).toNatClampNeg) + 1)) (upd f_line x3.toNatClampNeg u15) u9.1 u14
def lp_X7_findFar_L41 (v_keepers : Int32) (v_sight : Int32) (f_hates : Nat → Int32) (f_flash : Nat → Int32) (x2 : Int32) (k : Int32 → Int32 → (Nat → Int32) → (Nat → Int32) → (Nat → Int32) → (Nat → Int32) → Option ((Nat → Int32) × (Nat → Int32) × (Nat → Int32) × (Nat → Int32))) : Nat → Int32 → Int32 → (Nat → Int32) → (Nat → Int32) → (Nat → Int32) → (Nat → Int32) → Option ((Nat → Int32) × (Nat → Int32) × (Nat → Int32) × (Nat → Int32))
  | 0, _, _, _, _, _, _ => none
  | n + 1, x3, x4, f_far, f_line, f_of, f_at =>
    if x3 ≤ x4 then
      k x3 x4 f_far f_line f_of f_at
    else
      lp_X7_findFar_L50 v_keepers v_sight f_hates f_flash x2 x4 (fun y24 y25 y26 y27 y28 y29 =>
          lp_X7_findFar_L41 v_keepers v_sight f_hates f_flash x2 k n y24 (x4 + 1) y26 y27 y28 y29)
        FU x3 1 f_far f_line f_of f_at
def f_X7_findFar (v_keepers : Int32) (v_sight : Int32) (f_far : Nat → Int32) (f_line : Nat → Int32) (f_of : Nat → Int32) (f_at : Nat → Int32) (f_hates : Nat → Int32) (f_flash : Nat → Int32) (x1 : Int32) (x2 : Int32) : Option ((Nat → Int32) × (Nat → Int32) × (Nat → Int32) × (Nat → Int32)) :=
  lp_X7_findFar_L2  (fun y3 y4 =>
      if x1 < 0 ∨ 720 ≤ x1.toNatClampNeg then none else
      lp_X7_findFar_L41 v_keepers v_sight f_hates f_flash x2 (fun y30 y31 y32 y33 y34 y35 =>
          some (y32, y33, y34, y35))
        FU 1 0 (upd y4 x1.toNatClampNeg 0) (upd f_line (Int32.toNatClampNeg 0) x1) f_of f_at)
    FU 0 f_far
def lp_X7_areHome_L4 (v_keepers : Int32) (f_st : Nat → Int32) (k : Int32 → Int32 → Option (Int32)) : Nat → Int32 → Int32 → Option (Int32)
  | 0, _, _ => none
  | n + 1, x1, x2 =>
    if v_keepers ≤ x2 then
      k x1 x2
    else
      if x1 = 0 then
        lp_X7_areHome_L4 v_keepers f_st k n 0 (x2 + 1)
      else
        if x2 < 0 ∨ 100 ≤ x2.toNatClampNeg then none else
        if (f_st x2.toNatClampNeg) = x2 then
          lp_X7_areHome_L4 v_keepers f_st k n 1 (x2 + 1)
        else
          lp_X7_areHome_L4 v_keepers f_st k n 0 (x2 + 1)
def f_X7_areHome (v_keepers : Int32) (f_st : Nat → Int32) : Option (Int32) :=
  lp_X7_areHome_L4 v_keepers f_st (fun y5 y6 =>
      if ¬ (y5 = 0 ∨ y5 = 1) then none else
      some y5)
    FU 1 0
def lp_X7_homeward_L71 (v_keepers : Int32) (v_sight : Int32) (f_st : Nat → Int32) (f_flash : Nat → Int32) (f_far : Nat → Int32) (f_hates : Nat → Int32) (x1 : Int32) (k : Int32 → Int32 → Int32 → (Nat → Int32) → Option (Int32 × (Nat → Int32) × (Nat → Int32) × (Nat → Int32) × (Nat → Int32))) : Nat → Int32 → Int32 → Int32 → (Nat → Int32) → Option (Int32 × (Nat → Int32) × (Nat → Int32) × (Nat → Int32) × (Nat → Int32))
  | 0, _, _, _, _ => none
  | n + 1, x3, x4, x5, f_at =>
    if x5 < 0 then
      k x3 x4 x5 f_at
    else
      (f_X7_isChange v_keepers x5).bind fun u12 =>
      if u12 = 0 then
        lp_X7_homeward_L71 v_keepers v_sight f_st f_flash f_far f_hates x1 k n x3 x4 (x5 + (-1)) f_at
      else
        (f_X7_mayChange v_keepers 100 f_st f_hates x5).bind fun u14 =>
        if u14 = 0 then
          lp_X7_homeward_L71 v_keepers v_sight f_st f_flash f_far f_hates x1 k n x3 x4 (x5 + (-1)) f_at
        else
          (f_X7_asItIs f_at f_st).bind fun u16 =>
          (f_X7_changes v_keepers 6 u16 x5).bind fun u17 =>
          (f_X7_wayOf v_keepers 6 u17).bind fun u18 =>
          if u18 < 0 ∨ 720 ≤ u18.toNatClampNeg then none else
          if (f_far u18.toNatClampNeg) < 0 then
            lp_X7_homeward_L71 v_keepers v_sight f_st f_flash f_far f_hates x1 k n x3 x4 (x5 + (-1)) u17
          else
            (f_X7_isSafe v_keepers v_sight u17 f_flash x1).bind fun u21 =>
            if u21 = 0 then
              lp_X7_homeward_L71 v_keepers v_sight f_st f_flash f_far f_hates x1 k n x3 x4 (x5 + (-1)) u17
            else
              if x3 < 0 then
                lp_X7_homeward_L71 v_keepers v_sight f_st f_flash f_far f_hates x1 k n ((f_far u18.toNatClampNeg) + 1) x5 (x5 + (-1)) u17
              else
                if x3 < ((f_far u18.toNatClampNeg) + 1) then
                  lp_X7_homeward_L71 v_keepers v_sight f_st f_flash f_far f_hates x1 k n x3 x4 (x5 + (-1)) u17
                else
                  lp_X7_homeward_L71 v_keepers v_sight f_st f_flash f_far f_hates x1 k n ((f_far u18.toNatClampNeg) + 1) x5 (x5 + (-1)) u17
def f_X7_homeward (v_keepers : Int32) (v_sight : Int32) (f_st : Nat → Int32) (f_of : Nat → Int32) (f_at : Nat → Int32) (f_flash : Nat → Int32) (f_far : Nat → Int32) (f_line : Nat → Int32) (f_hates : Nat → Int32) (x1 : Int32) (x2 : Int32) : Option (Int32 × (Nat → Int32) × (Nat → Int32) × (Nat → Int32) × (Nat → Int32)) :=
  (f_X7_in x1 0 1).bind fun u1 =>
  if u1 = 0 then
    some ((-1), f_of, f_at, f_far, f_line)
  else
    (f_X7_in x2 0 1).bind fun u3 =>
    if u3 = 0 then
      some ((-1), f_of, f_at, f_far, f_line)
    else
      (f_X7_areHome v_keepers f_st).bind fun u5 =>
      if u5 = 0 then
        (f_X7_isWay v_keepers f_of f_at 0).bind fun u7 =>
        (f_X7_isSafe v_keepers v_sight u7.2 f_flash x1).bind fun u8 =>
        if u8 = 0 then
          some ((-9), u7.1, u7.2, f_far, f_line)
        else
          (f_X7_findFar v_keepers v_sight f_far f_line u7.1 u7.2 f_hates f_flash 0 x1).bind fun u10 =>
          lp_X7_homeward_L71 v_keepers v_sight f_st f_flash u10.1 f_hates x1 (fun y25 y26 y27 y28 =>
              if x2 = 0 then
                some (y25, u10.2.2.1, y28, u10.1, u10.2.1)
              else
                some (y26, u10.2.2.1, y28, u10.1, u10.2.1))
            FU (-9) (-9) 31 u10.2.2.2
      else
        if x2 = 0 then
          some (0, f_of, f_at, f_far, f_line)
        else
          some ((-9), f_of, f_at, f_far, f_line)
def lp_X7_trade_L74 (v_keepers : Int32) (f_far : Nat → Int32) (x1 : Int32) (x2 : Int32) (x4 : Int32) (x5 : Int32) (k : Int32 → Int32 → (Nat → Int32) → (Nat → Int32) → Option (Int32 × (Nat → Int32) × (Nat → Int32) × (Nat → Int32) × (Nat → Int32))) : Nat → Int32 → Int32 → (Nat → Int32) → (Nat → Int32) → Option (Int32 × (Nat → Int32) × (Nat → Int32) × (Nat → Int32) × (Nat → Int32))
  | 0, _, _, _, _ => none
  | n + 1, x6, x7, f_of, f_at =>
    if 720 ≤ x7 then
      k x6 x7 f_of f_at
    else
      if x7 < 0 ∨ 720 ≤ x7.toNatClampNeg then none else
      if (f_far x7.toNatClampNeg) ≤ 0 then
        lp_X7_trade_L74 v_keepers f_far x1 x2 x4 x5 k n x6 (x7 + 1) f_of f_at
      else
        if x6 < 0 then
          (f_X7_isWay v_keepers f_of f_at x7).bind fun u16 =>
          if x5 < 0 ∨ 6 ≤ x5.toNatClampNeg then none else
          if (u16.2 x5.toNatClampNeg) = x1 then
            if x4 < 0 ∨ 6 ≤ x4.toNatClampNeg then none else
            if (u16.2 x4.toNatClampNeg) = x2 then
              if x7 < 0 ∨ 720 ≤ x7.toNatClampNeg then none else
              lp_X7_trade_L74 v_keepers f_far x1 x2 x4 x5 k n (f_far x7.toNatClampNeg) (x7 + 1) u16.1 u16.2
            else
              lp_X7_trade_L74 v_keepers f_far x1 x2 x4 x5 k n x6 (x7 + 1) u16.1 u16.2
          else
            lp_X7_trade_L74 v_keepers f_far x1 x2 x4 x5 k n x6 (x7 + 1) u16.1 u16.2
        else
          if x7 < 0 ∨ 720 ≤ x7.toNatClampNeg then none else
          if x6 ≤ (f_far x7.toNatClampNeg) then
            lp_X7_trade_L74 v_keepers f_far x1 x2 x4 x5 k n x6 (x7 + 1) f_of f_at
          else
            (f_X7_isWay v_keepers f_of f_at x7).bind fun u24 =>
            if x5 < 0 ∨ 6 ≤ x5.toNatClampNeg then none else
            if (u24.2 x5.toNatClampNeg) = x1 then
              if x4 < 0 ∨ 6 ≤ x4.toNatClampNeg then none else
              if (u24.2 x4.toNatClampNeg) = x2 then
                if x7 < 0 ∨ 720 ≤ x7.toNatClampNeg then none else
                lp_X7_trade_L74 v_keepers f_far x1 x2 x4 x5 k n (f_far x7.toNatClampNeg) (x7 + 1) u24.1 u24.2
              else
                lp_X7_trade_L74 v_keepers f_far x1 x2 x4 x5 k n x6 (x7 + 1) u24.1 u24.2
            else
              lp_X7_trade_L74 v_keepers f_far x1 x2 x4 x5 k n x6 (x7 + 1) u24.1 u24.2
def f_X7_trade (v_keepers : Int32) (v_sight : Int32) (f_st : Nat → Int32) (f_far : Nat → Int32) (f_line : Nat → Int32) (f_of : Nat → Int32) (f_at : Nat → Int32) (f_hates : Nat → Int32) (f_flash : Nat → Int32) (x1 : Int32) (x2 : Int32) (x3 : Int32) : Option (Int32 × (Nat → Int32) × (Nat → Int32) × (Nat → Int32) × (Nat → Int32)) :=
  (f_X7_isOne v_keepers x1).bind fun u1 =>
  if u1 = 0 then
    some ((-1), f_far, f_line, f_of, f_at)
  else
    (f_X7_isOne v_keepers x2).bind fun u3 =>
    if u3 = 0 then
      some ((-1), f_far, f_line, f_of, f_at)
    else
      if x1 = x2 then
        some ((-1), f_far, f_line, f_of, f_at)
      else
        (f_X7_in x3 0 1).bind fun u6 =>
        if u6 = 0 then
          some ((-1), f_far, f_line, f_of, f_at)
        else
          (f_X7_rockOf 100 f_st x1).bind fun u8 =>
          (f_X7_rockOf 100 f_st x2).bind fun u9 =>
          (f_X7_wayOf v_keepers 100 f_st).bind fun u10 =>
          (f_X7_findFar v_keepers v_sight f_far f_line f_of f_at f_hates f_flash u10 x3).bind fun u11 =>
          lp_X7_trade_L74 v_keepers u11.1 x1 x2 u8 u9 (fun y30 y31 y32 y33 =>
              some (y30, u11.1, u11.2.1, y32, y33))
            FU (-9) 0 u11.2.2.1 u11.2.2.2
def lp_X7_ship_L27 (v_keepers : Int32) (f_flash : Nat → Int32) (f_st : Nat → Int32) (x1 : Int32) (x2 : Int32) (k : Int32 → Int32 → Option (Int32)) : Nat → Int32 → Int32 → Option (Int32)
  | 0, _, _ => none
  | n + 1, x3, x4 =>
    if v_keepers ≤ (x4 + 1) then
      k x3 x4
    else
      if x4 < 0 ∨ 100 ≤ x4.toNatClampNeg then none else
      if (f_st x4.toNatClampNeg) < 0 ∨ 6 ≤ (f_st x4.toNatClampNeg).toNatClampNeg then none else
      if (f_flash (f_st x4.toNatClampNeg).toNatClampNeg) = x1 then
        if (x4 + 1) < 0 ∨ 100 ≤ (x4 + 1).toNatClampNeg then none else
        if (f_st (x4 + 1).toNatClampNeg) < 0 ∨ 6 ≤ (f_st (x4 + 1).toNatClampNeg).toNatClampNeg then none else
        if (f_flash (f_st (x4 + 1).toNatClampNeg).toNatClampNeg) = x2 then
          if x4 < 0 ∨ 100 ≤ x4.toNatClampNeg then none else
          (f_X7_has (f_st (Int32.toNatClampNeg 8)) (f_st x4.toNatClampNeg)).bind fun u13 =>
          if u13 = 0 then
            if (x4 + 1) < 0 ∨ 100 ≤ (x4 + 1).toNatClampNeg then none else
            (f_X7_has (f_st (Int32.toNatClampNeg 8)) (f_st (x4 + 1).toNatClampNeg)).bind fun u16 =>
            if u16 = 0 then
              lp_X7_ship_L27 v_keepers f_flash f_st x1 x2 k n (x3 ||| (1 <<< (x4 &&& 31))) (x4 + 1)
            else
              lp_X7_ship_L27 v_keepers f_flash f_st x1 x2 k n (x3 ||| 0) (x4 + 1)
          else
            lp_X7_ship_L27 v_keepers f_flash f_st x1 x2 k n (x3 ||| 0) (x4 + 1)
        else
          lp_X7_ship_L27 v_keepers f_flash f_st x1 x2 k n (x3 ||| 0) (x4 + 1)
      else
        lp_X7_ship_L27 v_keepers f_flash f_st x1 x2 k n (x3 ||| 0) (x4 + 1)
def f_X7_ship (v_keepers : Int32) (f_flash : Nat → Int32) (f_st : Nat → Int32) (x1 : Int32) (x2 : Int32) : Option (Int32) :=
  (f_X7_in x1 1 9).bind fun u1 =>
  if u1 = 0 then
    some (-1)
  else
    (f_X7_in x2 1 9).bind fun u3 =>
    if u3 = 0 then
      some (-1)
    else
      lp_X7_ship_L27 v_keepers f_flash f_st x1 x2 (fun y18 y19 =>
          some y18)
        FU 0 0
def lp_X7_odds_L38 (v_keepers : Int32) (v_sight : Int32) (f_st : Nat → Int32) (x1 : Int32) (x2 : Int32) (k : Int32 → Int32 → Int32 → Option (Int32)) : Nat → Int32 → Int32 → Int32 → Option (Int32)
  | 0, _, _, _ => none
  | n + 1, x4, x5, x6 =>
    if v_keepers ≤ x6 then
      k x4 x5 x6
    else
      if v_sight < (x6 - x1) then
        lp_X7_odds_L38 v_keepers v_sight f_st x1 x2 k n x4 x5 (x6 + 1)
      else
        if v_sight < (x1 - x6) then
          lp_X7_odds_L38 v_keepers v_sight f_st x1 x2 k n x4 x5 (x6 + 1)
        else
          if x6 < 0 ∨ 100 ≤ x6.toNatClampNeg then none else
          (f_X7_has (f_st (Int32.toNatClampNeg 8)) (f_st x6.toNatClampNeg)).bind fun u11 =>
          if u11 = 0 then
            lp_X7_odds_L38 v_keepers v_sight f_st x1 x2 k n (x4 * 10) (x5 * x2) (x6 + 1)
          else
            lp_X7_odds_L38 v_keepers v_sight f_st x1 x2 k n x4 x5 (x6 + 1)
def lp_X7_odds_L135  (k : Int32 → Int32 → Option (Int32)) : Nat → Int32 → Int32 → Option (Int32)
  | 0, _, _ => none
  | n + 1, x7, x8 =>
    if x8 ≤ 0 then
      k x7 x8
    else
      if x8 = 0 then none else
      lp_X7_odds_L135  k n x8 (x7 - x7 / x8 * x8)
def f_X7_odds (v_keepers : Int32) (v_sight : Int32) (f_st : Nat → Int32) (x1 : Int32) (x2 : Int32) (x3 : Int32) : Option (Int32) :=
  (f_X7_isOne v_keepers x1).bind fun u1 =>
  if u1 = 0 then
    some (-1)
  else
    (f_X7_in x2 0 10).bind fun u3 =>
    if u3 = 0 then
      some (-1)
    else
      (f_X7_in x3 0 1).bind fun u5 =>
      if u5 = 0 then
        some (-1)
      else
        lp_X7_odds_L38 v_keepers v_sight f_st x1 x2 (fun y13 y14 y15 =>
            lp_X7_odds_L135  (fun y18 y19 =>
                if x3 = 0 then
                  if y18 = 0 then none else
                  some ((y13 - y14) / y18)
                else
                  if y18 = 0 then none else
                  some (y13 / y18))
              FU (y13 - y14) y13)
          FU 1 1 0
def f_X7_saw (v_keepers : Int32) (v_seenMany : Int32) (f_seen : Nat → Int32) (x1 : Int32) (x2 : Int32) : Option (Int32 × Int32 × (Nat → Int32)) :=
  (f_X7_isOne v_keepers x1).bind fun u1 =>
  if u1 = 0 then
    some ((-1), v_seenMany, f_seen)
  else
    (f_X7_in x2 1 9).bind fun u3 =>
    if u3 = 0 then
      some ((-1), v_seenMany, f_seen)
    else
      if v_seenMany = 6 then
        some ((-3), v_seenMany, f_seen)
      else
        if (2 * v_seenMany) < 0 ∨ 12 ≤ (2 * v_seenMany).toNatClampNeg then none else
        if ((2 * v_seenMany) + 1) < 0 ∨ 12 ≤ ((2 * v_seenMany) + 1).toNatClampNeg then none else
        some ((v_seenMany + 1), (v_seenMany + 1), (upd (upd f_seen (2 * v_seenMany).toNatClampNeg x1) ((2 * v_seenMany) + 1).toNatClampNeg x2))
def f_X7_forget (v_seenMany : Int32) : Option (Int32 × Int32) :=
  some (v_seenMany, 0)
def lp_X7_isSo_L4 (v_seenMany : Int32) (f_flash : Nat → Int32) (f_at : Nat → Int32) (f_seen : Nat → Int32) (k : Int32 → Int32 → Option (Int32)) : Nat → Int32 → Int32 → Option (Int32)
  | 0, _, _ => none
  | n + 1, x1, x2 =>
    if v_seenMany ≤ x2 then
      k x1 x2
    else
      if x1 = 0 then
        lp_X7_isSo_L4 v_seenMany f_flash f_at f_seen k n 0 (x2 + 1)
      else
        if (2 * x2) < 0 ∨ 12 ≤ (2 * x2).toNatClampNeg then none else
        if (f_seen (2 * x2).toNatClampNeg) < 0 ∨ 6 ≤ (f_seen (2 * x2).toNatClampNeg).toNatClampNeg then none else
        if (f_at (f_seen (2 * x2).toNatClampNeg).toNatClampNeg) < 0 ∨ 6 ≤ (f_at (f_seen (2 * x2).toNatClampNeg).toNatClampNeg).toNatClampNeg then none else
        if ((2 * x2) + 1) < 0 ∨ 12 ≤ ((2 * x2) + 1).toNatClampNeg then none else
        if (f_flash (f_at (f_seen (2 * x2).toNatClampNeg).toNatClampNeg).toNatClampNeg) = (f_seen ((2 * x2) + 1).toNatClampNeg) then
          lp_X7_isSo_L4 v_seenMany f_flash f_at f_seen k n 1 (x2 + 1)
        else
          lp_X7_isSo_L4 v_seenMany f_flash f_at f_seen k n 0 (x2 + 1)
def f_X7_isSo (v_seenMany : Int32) (f_flash : Nat → Int32) (f_at : Nat → Int32) (f_seen : Nat → Int32) : Option (Int32) :=
  lp_X7_isSo_L4 v_seenMany f_flash f_at f_seen (fun y8 y9 =>
      if ¬ (y8 = 0 ∨ y8 = 1) then none else
      some y8)
    FU 1 0
def lp_X7_fits_L19 (v_keepers : Int32) (k : Int32 → Int32 → Option (Int32 × (Nat → Int32) × (Nat → Int32))) : Nat → Int32 → Int32 → Option (Int32 × (Nat → Int32) × (Nat → Int32))
  | 0, _, _ => none
  | n + 1, x2, x3 =>
    if v_keepers < x3 then
      k x2 x3
    else
      lp_X7_fits_L19 v_keepers k n (x2 * x3) (x3 + 1)
def lp_X7_fits_L49 (v_keepers : Int32) (v_seenMany : Int32) (f_flash : Nat → Int32) (f_seen : Nat → Int32) (x1 : Int32) (x2 : Int32) (k : Int32 → Int32 → Int32 → Int32 → (Nat → Int32) → (Nat → Int32) → Option (Int32 × (Nat → Int32) × (Nat → Int32))) : Nat → Int32 → Int32 → Int32 → Int32 → (Nat → Int32) → (Nat → Int32) → Option (Int32 × (Nat → Int32) × (Nat → Int32))
  | 0, _, _, _, _, _, _ => none
  | n + 1, x3, x4, x5, x6, f_of, f_at =>
    if x2 ≤ x6 then
      k x3 x4 x5 x6 f_of f_at
    else
      (f_X7_isWay v_keepers f_of f_at x6).bind fun u6 =>
      (f_X7_isSo v_seenMany f_flash u6.2 f_seen).bind fun u7 =>
      if u7 = 0 then
        lp_X7_fits_L49 v_keepers v_seenMany f_flash f_seen x1 x2 k n x3 x4 x5 (x6 + 1) u6.1 u6.2
      else
        if x1 < 0 then
          lp_X7_fits_L49 v_keepers v_seenMany f_flash f_seen x1 x2 k n (x3 + 1) x4 x5 (x6 + 1) u6.1 u6.2
        else
          if x5 = 0 then
            if x1 < 0 ∨ 6 ≤ x1.toNatClampNeg then none else
            lp_X7_fits_L49 v_keepers v_seenMany f_flash f_seen x1 x2 k n (x3 + 1) (u6.2 x1.toNatClampNeg) 0 (x6 + 1) u6.1 u6.2
          else
            if x4 < 0 then
              if x1 < 0 ∨ 6 ≤ x1.toNatClampNeg then none else
              lp_X7_fits_L49 v_keepers v_seenMany f_flash f_seen x1 x2 k n (x3 + 1) (u6.2 x1.toNatClampNeg) 1 (x6 + 1) u6.1 u6.2
            else
              if x1 < 0 ∨ 6 ≤ x1.toNatClampNeg then none else
              if (u6.2 x1.toNatClampNeg) = x4 then
                if x1 < 0 ∨ 6 ≤ x1.toNatClampNeg then none else
                lp_X7_fits_L49 v_keepers v_seenMany f_flash f_seen x1 x2 k n (x3 + 1) (u6.2 x1.toNatClampNeg) 1 (x6 + 1) u6.1 u6.2
              else
                if x1 < 0 ∨ 6 ≤ x1.toNatClampNeg then none else
                lp_X7_fits_L49 v_keepers v_seenMany f_flash f_seen x1 x2 k n (x3 + 1) (u6.2 x1.toNatClampNeg) 0 (x6 + 1) u6.1 u6.2
def f_X7_fits (v_keepers : Int32) (v_seenMany : Int32) (f_of : Nat → Int32) (f_at : Nat → Int32) (f_flash : Nat → Int32) (f_seen : Nat → Int32) (x1 : Int32) : Option (Int32 × (Nat → Int32) × (Nat → Int32)) :=
  if x1 = (-1) then
    lp_X7_fits_L19 v_keepers (fun y3 y4 =>
        lp_X7_fits_L49 v_keepers v_seenMany f_flash f_seen x1 y3 (fun y18 y19 y20 y21 y22 y23 =>
            if 0 ≤ x1 then
              if y20 = 0 then
                some ((-9), y22, y23)
              else
                some (y19, y22, y23)
            else
              some (y18, y22, y23))
          FU 0 (-9) 1 0 f_of f_at)
      FU 1 2
  else
    (f_X7_isOne v_keepers x1).bind fun u26 =>
    if u26 = 0 then
      some ((-1), f_of, f_at)
    else
      lp_X7_fits_L19 v_keepers (fun y28 y29 =>
          lp_X7_fits_L49 v_keepers v_seenMany f_flash f_seen x1 y28 (fun y30 y31 y32 y33 y34 y35 =>
              if 0 ≤ x1 then
                if y32 = 0 then
                  some ((-9), y34, y35)
                else
                  some (y31, y34, y35)
              else
                some (y30, y34, y35))
            FU 0 (-9) 1 0 f_of f_at)
        FU 1 2
def f_X7_mark (v_keepers : Int32) (v_trace : Int64) (f_flash : Nat → Int32) (f_st : Nat → Int32) (x1 : Int32) (x2 : Int32) : Option (Int32 × Int64) :=
  (f_X7_in x1 0 5).bind fun u1 =>
  if u1 = 0 then
    some ((-1000000), v_trace)
  else
    (f_X7_isOne v_keepers x2).bind fun u3 =>
    if u3 = 0 then
      some ((-1000000), v_trace)
    else
      if x2 < 0 ∨ 6 ≤ x2.toNatClampNeg then none else
      (f_X7_driftOf f_st x2).bind fun u6 =>
      (f_X7_rockOf 100 f_st x2).bind fun u7 =>
      if x1 = 1 then
        some (((f_flash x2.toNatClampNeg) + u6), (v_trace + 11))
      else
        if x1 = 2 then
          some (((f_flash x2.toNatClampNeg) - u7), (v_trace + 101))
        else
          if x1 = 3 then
            some ((2 * ((f_flash x2.toNatClampNeg) + u6)), (v_trace + 1011))
          else
            if x1 = 4 then
              some ((((f_flash x2.toNatClampNeg) - u7) + x2), (v_trace + 10101))
            else
              if x1 = 5 then
                some (((f_flash x2.toNatClampNeg) + (f_st (Int32.toNatClampNeg 6))), (v_trace + 100001))
              else
                some ((f_flash x2.toNatClampNeg), (v_trace + 1))
def lp_X7_keep_L13 (f_st : Nat → Int32) (x1 : Int32) (k : Int32 → (Nat → Int32) → Option (Int32 × (Nat → Int32) × (Nat → Int32))) : Nat → Int32 → (Nat → Int32) → Option (Int32 × (Nat → Int32) × (Nat → Int32))
  | 0, _, _ => none
  | n + 1, x2, f_images =>
    if 100 ≤ x2 then
      k x2 f_images
    else
      if x2 < 0 ∨ 100 ≤ x2.toNatClampNeg then none else
      if ((100 * x1) + x2) < 0 ∨ 200 ≤ ((100 * x1) + x2).toNatClampNeg then none else
      lp_X7_keep_L13 f_st x1 k n (x2 + 1) (upd f_images ((100 * x1) + x2).toNatClampNeg (f_st x2.toNatClampNeg))
def f_X7_keep (f_images : Nat → Int32) (f_st : Nat → Int32) (f_isKept : Nat → Int32) (x1 : Int32) : Option (Int32 × (Nat → Int32) × (Nat → Int32)) :=
  (f_X7_in x1 0 1).bind fun u1 =>
  if u1 = 0 then
    some ((-1), f_images, f_isKept)
  else
    lp_X7_keep_L13 f_st x1 (fun y6 y7 =>
        if x1 < 0 ∨ 2 ≤ x1.toNatClampNeg then none else
        some ((f_st (Int32.toNatClampNeg 6)), y7, (upd f_isKept x1.toNatClampNeg (vp_nar .boolean 1))))
      FU 0 f_images
def lp_X7_back_L25 (f_images : Nat → Int32) (x1 : Int32) (k : Int32 → (Nat → Int32) → Option (Int32 × (Nat → Int32))) : Nat → Int32 → (Nat → Int32) → Option (Int32 × (Nat → Int32))
  | 0, _, _ => none
  | n + 1, x2, f_st =>
    if 100 ≤ x2 then
      k x2 f_st
    else
      if ((100 * x1) + x2) < 0 ∨ 200 ≤ ((100 * x1) + x2).toNatClampNeg then none else
      if x2 < 0 ∨ 100 ≤ x2.toNatClampNeg then none else
      lp_X7_back_L25 f_images x1 k n (x2 + 1) (upd f_st x2.toNatClampNeg (f_images ((100 * x1) + x2).toNatClampNeg))
def f_X7_back (f_isKept : Nat → Int32) (f_st : Nat → Int32) (f_images : Nat → Int32) (x1 : Int32) : Option (Int32 × (Nat → Int32)) :=
  (f_X7_in x1 0 1).bind fun u1 =>
  if u1 = 0 then
    some ((-1), f_st)
  else
    if x1 < 0 ∨ 2 ≤ x1.toNatClampNeg then none else
    if (f_isKept x1.toNatClampNeg) = 0 then
      some ((-2), f_st)
    else
      lp_X7_back_L25 f_images x1 (fun y8 y9 =>
          some ((y9 (Int32.toNatClampNeg 6)), y9))
        FU 0 f_st
def f_X7_count (v_keepers : Int32) (v_hatesMany : Int32) (v_sight : Int32) (v_seenMany : Int32) (v_texted : Int32) (f_st : Nat → Int32) (x1 : Int32) : Option (Int32) :=
  if x1 = 0 then
    some v_keepers
  else
    if x1 = 1 then
      some v_hatesMany
    else
      if x1 = 2 then
        some v_sight
      else
        if x1 = 3 then
          some v_seenMany
        else
          if x1 = 4 then
            some (f_st (Int32.toNatClampNeg 9))
          else
            if x1 = 5 then
              some v_texted
            else
              some (-1)
def f_X7_trace (v_trace : Int64) : Option (Int64) :=
  some v_trace
