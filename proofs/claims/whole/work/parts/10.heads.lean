abbrev FU : Nat := 4096
abbrev ushr (x y : Int32) : Int32 := (x.toUInt32 >>> (y.toUInt32 &&& Int32.toUInt32 31)).toInt32
theorem nar01 {x : Int32} (h : ¬ ¬ (x = 0 ∨ x = 1)) : narrow .boolean (.int x) = .int x := by
  rcases Classical.not_not.mp h with rfl | rfl <;> rfl
theorem fit01 {x : Int32} (h : ¬ ¬ (x = 0 ∨ x = 1)) : fits .boolean (.int x) = true := by
  rcases Classical.not_not.mp h with rfl | rfl <;> rfl
def tg2 (a b : Nat) (t : Nat) : Option Nat := match t with
  | 0 => some a
  | 1 => some b
  | _ => none
theorem tg2_n (a b : Nat) {t : Nat} (h0 : ¬ t = 0) (h1 : ¬ t = 1) : tg2 a b t = none := by
  match t, h0, h1 with
  | 0, h0, _ => exact absurd rfl h0
  | 1, _, h1 => exact absurd rfl h1
  | n + 2, _, _ => rfl
theorem lkOut {x : Int} {a b c : Int} {oa ob oc d : Int} (h1 : ¬ x = a) (h2 : ¬ x = b) (h3 : ¬ x = c) : Op.lookupswitch.offset [(a, oa), (b, ob), (c, oc)] d x = d := by
  simp [Op.lookupswitch.offset, Ne.symm h1, Ne.symm h2, Ne.symm h3, h1, h2, h3]
abbrev rm_X0_begin : Room := { frames := 0, cells := 0, slots := 0, locals := 0 }
theorem hd_X0_begin : yX0_begin.cls ≠ "java/lang/invoke/MethodHandle" ∧ yX0_begin.cls ≠ "java/lang/invoke/VarHandle" ∧ (parseMethodDescriptor yX0_begin.desc).map (fun d => d.parameters.length) = some 0 := ⟨by decide +kernel, by decide +kernel, by decide +kernel⟩
theorem in_X0_begin_X0 : ∀ w ∈ wsX00, w ∈ wsX0_begin := fun w h => List.mem_cons_of_mem _ (List.mem_append_right _ h)
abbrev rm_X0_become : Room := { frames := 1, cells := 0, slots := 0, locals := 26 }
theorem hd_X0_become : yX0_become.cls ≠ "java/lang/invoke/MethodHandle" ∧ yX0_become.cls ≠ "java/lang/invoke/VarHandle" ∧ (parseMethodDescriptor yX0_become.desc).map (fun d => d.parameters.length) = some 1 := ⟨by decide +kernel, by decide +kernel, by decide +kernel⟩
theorem in_X0_become_X0 : ∀ w ∈ wsX00, w ∈ wsX0_become := fun w h => List.mem_cons_of_mem _ (List.mem_append_right _ h)
abbrev rm_X6_put : Room := { frames := 0, cells := 0, slots := 0, locals := 0 }
theorem hd_X6_put : yX6_put.cls ≠ "java/lang/invoke/MethodHandle" ∧ yX6_put.cls ≠ "java/lang/invoke/VarHandle" ∧ (parseMethodDescriptor yX6_put.desc).map (fun d => d.parameters.length) = some 3 := ⟨by decide +kernel, by decide +kernel, by decide +kernel⟩
abbrev rm_X0_remember : Room := { frames := 1, cells := 0, slots := 0, locals := 26 }
theorem hd_X0_remember : yX0_remember.cls ≠ "java/lang/invoke/MethodHandle" ∧ yX0_remember.cls ≠ "java/lang/invoke/VarHandle" ∧ (parseMethodDescriptor yX0_remember.desc).map (fun d => d.parameters.length) = some 0 := ⟨by decide +kernel, by decide +kernel, by decide +kernel⟩
theorem in_X0_remember_X0 : ∀ w ∈ wsX00, w ∈ wsX0_remember := fun w h => List.mem_cons_of_mem _ (List.mem_append_right _ h)
abbrev rm_X6_item : Room := { frames := 0, cells := 0, slots := 0, locals := 0 }
theorem hd_X6_item : yX6_item.cls ≠ "java/lang/invoke/MethodHandle" ∧ yX6_item.cls ≠ "java/lang/invoke/VarHandle" ∧ (parseMethodDescriptor yX6_item.desc).map (fun d => d.parameters.length) = some 2 := ⟨by decide +kernel, by decide +kernel, by decide +kernel⟩
abbrev rm_X0_recall : Room := { frames := 1, cells := 0, slots := 0, locals := 21 }
theorem hd_X0_recall : yX0_recall.cls ≠ "java/lang/invoke/MethodHandle" ∧ yX0_recall.cls ≠ "java/lang/invoke/VarHandle" ∧ (parseMethodDescriptor yX0_recall.desc).map (fun d => d.parameters.length) = some 0 := ⟨by decide +kernel, by decide +kernel, by decide +kernel⟩
theorem in_X0_recall_X0 : ∀ w ∈ wsX00, w ∈ wsX0_recall := fun w h => List.mem_cons_of_mem _ (List.mem_append_right _ h)
abbrev rm_X1_add : Room := { frames := 1, cells := 0, slots := 0, locals := 22 }
theorem hd_X1_add : yX1_add.cls ≠ "java/lang/invoke/MethodHandle" ∧ yX1_add.cls ≠ "java/lang/invoke/VarHandle" ∧ (parseMethodDescriptor yX1_add.desc).map (fun d => d.parameters.length) = some 1 := ⟨by decide +kernel, by decide +kernel, by decide +kernel⟩
theorem in_X1_add_X1 : ∀ w ∈ wsX10, w ∈ wsX1_add := fun w h => List.mem_cons_of_mem _ (List.mem_append_right _ h)
abbrev rm_X1_isDigit : Room := { frames := 0, cells := 0, slots := 0, locals := 0 }
theorem hd_X1_isDigit : yX1_isDigit.cls ≠ "java/lang/invoke/MethodHandle" ∧ yX1_isDigit.cls ≠ "java/lang/invoke/VarHandle" ∧ (parseMethodDescriptor yX1_isDigit.desc).map (fun d => d.parameters.length) = some 1 := ⟨by decide +kernel, by decide +kernel, by decide +kernel⟩
abbrev rm_X1_isLetter : Room := { frames := 0, cells := 0, slots := 0, locals := 0 }
theorem hd_X1_isLetter : yX1_isLetter.cls ≠ "java/lang/invoke/MethodHandle" ∧ yX1_isLetter.cls ≠ "java/lang/invoke/VarHandle" ∧ (parseMethodDescriptor yX1_isLetter.desc).map (fun d => d.parameters.length) = some 1 := ⟨by decide +kernel, by decide +kernel, by decide +kernel⟩
abbrev rm_X1_nextDigits : Room := { frames := 1, cells := 0, slots := 0, locals := 26 }
theorem hd_X1_nextDigits : yX1_nextDigits.cls ≠ "java/lang/invoke/MethodHandle" ∧ yX1_nextDigits.cls ≠ "java/lang/invoke/VarHandle" ∧ (parseMethodDescriptor yX1_nextDigits.desc).map (fun d => d.parameters.length) = some 1 := ⟨by decide +kernel, by decide +kernel, by decide +kernel⟩
theorem in_X1_nextDigits_X1 : ∀ w ∈ wsX10, w ∈ wsX1_nextDigits := fun w h => List.mem_cons_of_mem _ (List.mem_append_right _ h)
abbrev rm_X1_nextLetters : Room := { frames := 1, cells := 0, slots := 0, locals := 21 }
theorem hd_X1_nextLetters : yX1_nextLetters.cls ≠ "java/lang/invoke/MethodHandle" ∧ yX1_nextLetters.cls ≠ "java/lang/invoke/VarHandle" ∧ (parseMethodDescriptor yX1_nextLetters.desc).map (fun d => d.parameters.length) = some 1 := ⟨by decide +kernel, by decide +kernel, by decide +kernel⟩
theorem in_X1_nextLetters_X1 : ∀ w ∈ wsX10, w ∈ wsX1_nextLetters := fun w h => List.mem_cons_of_mem _ (List.mem_append_right _ h)
abbrev rm_X1_next : Room := { frames := 2, cells := 0, slots := 0, locals := 48 }
theorem hd_X1_next : yX1_next.cls ≠ "java/lang/invoke/MethodHandle" ∧ yX1_next.cls ≠ "java/lang/invoke/VarHandle" ∧ (parseMethodDescriptor yX1_next.desc).map (fun d => d.parameters.length) = some 0 := ⟨by decide +kernel, by decide +kernel, by decide +kernel⟩
theorem in_X1_next_X1 : ∀ w ∈ wsX10, w ∈ wsX1_next := fun w h => List.mem_cons_of_mem _ (List.mem_append_right _ h)
abbrev rm_X1_readNumber : Room := { frames := 3, cells := 0, slots := 0, locals := 69 }
theorem hd_X1_readNumber : yX1_readNumber.cls ≠ "java/lang/invoke/MethodHandle" ∧ yX1_readNumber.cls ≠ "java/lang/invoke/VarHandle" ∧ (parseMethodDescriptor yX1_readNumber.desc).map (fun d => d.parameters.length) = some 2 := ⟨by decide +kernel, by decide +kernel, by decide +kernel⟩
theorem in_X1_readNumber_X1 : ∀ w ∈ wsX10, w ∈ wsX1_readNumber := fun w h => List.mem_cons_of_mem _ (List.mem_append_right _ h)
abbrev rm_X1_readSemicolon : Room := { frames := 3, cells := 0, slots := 0, locals := 69 }
theorem hd_X1_readSemicolon : yX1_readSemicolon.cls ≠ "java/lang/invoke/MethodHandle" ∧ yX1_readSemicolon.cls ≠ "java/lang/invoke/VarHandle" ∧ (parseMethodDescriptor yX1_readSemicolon.desc).map (fun d => d.parameters.length) = some 0 := ⟨by decide +kernel, by decide +kernel, by decide +kernel⟩
theorem in_X1_readSemicolon_X1 : ∀ w ∈ wsX10, w ∈ wsX1_readSemicolon := fun w h => List.mem_cons_of_mem _ (List.mem_append_right _ h)
abbrev rm_X4_hatersOf : Room := { frames := 0, cells := 0, slots := 0, locals := 0 }
theorem hd_X4_hatersOf : yX4_hatersOf.cls ≠ "java/lang/invoke/MethodHandle" ∧ yX4_hatersOf.cls ≠ "java/lang/invoke/VarHandle" ∧ (parseMethodDescriptor yX4_hatersOf.desc).map (fun d => d.parameters.length) = some 1 := ⟨by decide +kernel, by decide +kernel, by decide +kernel⟩
theorem in_X4_hatersOf_X4 : ∀ w ∈ wsX40, w ∈ wsX4_hatersOf := fun w h => List.mem_cons_of_mem _ (List.mem_append_right _ h)
abbrev rm_X4_addHate : Room := { frames := 1, cells := 0, slots := 0, locals := 22 }
theorem hd_X4_addHate : yX4_addHate.cls ≠ "java/lang/invoke/MethodHandle" ∧ yX4_addHate.cls ≠ "java/lang/invoke/VarHandle" ∧ (parseMethodDescriptor yX4_addHate.desc).map (fun d => d.parameters.length) = some 2 := ⟨by decide +kernel, by decide +kernel, by decide +kernel⟩
theorem in_X4_addHate_X4 : ∀ w ∈ wsX40, w ∈ wsX4_addHate := fun w h => List.mem_cons_of_mem _ (List.mem_append_right _ h)
abbrev rm_X1_readHate : Room := { frames := 4, cells := 0, slots := 0, locals := 91 }
theorem hd_X1_readHate : yX1_readHate.cls ≠ "java/lang/invoke/MethodHandle" ∧ yX1_readHate.cls ≠ "java/lang/invoke/VarHandle" ∧ (parseMethodDescriptor yX1_readHate.desc).map (fun d => d.parameters.length) = some 1 := ⟨by decide +kernel, by decide +kernel, by decide +kernel⟩
theorem in_X1_readHate_X4 : ∀ w ∈ wsX40, w ∈ wsX1_readHate := fun w h => List.mem_cons_of_mem _ (List.mem_append_left _ (List.mem_append_right _ h))
theorem in_X1_readHate_X1 : ∀ w ∈ wsX10, w ∈ wsX1_readHate := fun w h => List.mem_cons_of_mem _ (List.mem_append_right _ h)
abbrev rm_X4_addKeeper : Room := { frames := 1, cells := 0, slots := 0, locals := 22 }
theorem hd_X4_addKeeper : yX4_addKeeper.cls ≠ "java/lang/invoke/MethodHandle" ∧ yX4_addKeeper.cls ≠ "java/lang/invoke/VarHandle" ∧ (parseMethodDescriptor yX4_addKeeper.desc).map (fun d => d.parameters.length) = some 1 := ⟨by decide +kernel, by decide +kernel, by decide +kernel⟩
theorem in_X4_addKeeper_X4 : ∀ w ∈ wsX40, w ∈ wsX4_addKeeper := fun w h => List.mem_cons_of_mem _ (List.mem_append_right _ h)
abbrev rm_X1_readKeeper : Room := { frames := 4, cells := 0, slots := 0, locals := 91 }
theorem hd_X1_readKeeper : yX1_readKeeper.cls ≠ "java/lang/invoke/MethodHandle" ∧ yX1_readKeeper.cls ≠ "java/lang/invoke/VarHandle" ∧ (parseMethodDescriptor yX1_readKeeper.desc).map (fun d => d.parameters.length) = some 1 := ⟨by decide +kernel, by decide +kernel, by decide +kernel⟩
theorem in_X1_readKeeper_X4 : ∀ w ∈ wsX40, w ∈ wsX1_readKeeper := fun w h => List.mem_cons_of_mem _ (List.mem_append_left _ (List.mem_append_right _ h))
theorem in_X1_readKeeper_X1 : ∀ w ∈ wsX10, w ∈ wsX1_readKeeper := fun w h => List.mem_cons_of_mem _ (List.mem_append_right _ h)
abbrev rm_X4_tellSight : Room := { frames := 0, cells := 0, slots := 0, locals := 0 }
theorem hd_X4_tellSight : yX4_tellSight.cls ≠ "java/lang/invoke/MethodHandle" ∧ yX4_tellSight.cls ≠ "java/lang/invoke/VarHandle" ∧ (parseMethodDescriptor yX4_tellSight.desc).map (fun d => d.parameters.length) = some 1 := ⟨by decide +kernel, by decide +kernel, by decide +kernel⟩
theorem in_X4_tellSight_X4 : ∀ w ∈ wsX40, w ∈ wsX4_tellSight := fun w h => List.mem_cons_of_mem _ (List.mem_append_right _ h)
abbrev rm_X1_readSight : Room := { frames := 4, cells := 0, slots := 0, locals := 91 }
theorem hd_X1_readSight : yX1_readSight.cls ≠ "java/lang/invoke/MethodHandle" ∧ yX1_readSight.cls ≠ "java/lang/invoke/VarHandle" ∧ (parseMethodDescriptor yX1_readSight.desc).map (fun d => d.parameters.length) = some 1 := ⟨by decide +kernel, by decide +kernel, by decide +kernel⟩
theorem in_X1_readSight_X4 : ∀ w ∈ wsX40, w ∈ wsX1_readSight := fun w h => List.mem_cons_of_mem _ (List.mem_append_left _ (List.mem_append_right _ h))
theorem in_X1_readSight_X1 : ∀ w ∈ wsX10, w ∈ wsX1_readSight := fun w h => List.mem_cons_of_mem _ (List.mem_append_right _ h)
abbrev rm_J7_fill_53178 : Room := { frames := 0, cells := 0, slots := 0, locals := 0 }
theorem hd_J7_fill_53178 : yJ7_fill_53178.cls ≠ "java/lang/invoke/MethodHandle" ∧ yJ7_fill_53178.cls ≠ "java/lang/invoke/VarHandle" ∧ (parseMethodDescriptor yJ7_fill_53178.desc).map (fun d => d.parameters.length) = some 2 := ⟨by decide +kernel, by decide +kernel, by decide +kernel⟩
abbrev rm_X4_begin : Room := { frames := 1, cells := 0, slots := 0, locals := 23 }
theorem hd_X4_begin : yX4_begin.cls ≠ "java/lang/invoke/MethodHandle" ∧ yX4_begin.cls ≠ "java/lang/invoke/VarHandle" ∧ (parseMethodDescriptor yX4_begin.desc).map (fun d => d.parameters.length) = some 0 := ⟨by decide +kernel, by decide +kernel, by decide +kernel⟩
theorem in_X4_begin_X4 : ∀ w ∈ wsX40, w ∈ wsX4_begin := fun w h => List.mem_cons_of_mem _ (List.mem_append_right _ h)
abbrev rm_X1_read : Room := { frames := 5, cells := 0, slots := 0, locals := 113 }
theorem hd_X1_read : yX1_read.cls ≠ "java/lang/invoke/MethodHandle" ∧ yX1_read.cls ≠ "java/lang/invoke/VarHandle" ∧ (parseMethodDescriptor yX1_read.desc).map (fun d => d.parameters.length) = some 1 := ⟨by decide +kernel, by decide +kernel, by decide +kernel⟩
theorem in_X1_read_X1 : ∀ w ∈ wsX10, w ∈ wsX1_read := fun w h => List.mem_cons_of_mem _ (List.mem_append_left _ (List.mem_append_right _ h))
theorem in_X1_read_X4 : ∀ w ∈ wsX40, w ∈ wsX1_read := fun w h => List.mem_cons_of_mem _ (List.mem_append_right _ h)
abbrev rm_X2_renew : Room := { frames := 0, cells := 0, slots := 0, locals := 0 }
theorem hd_X2_renew : yX2_renew.cls ≠ "java/lang/invoke/MethodHandle" ∧ yX2_renew.cls ≠ "java/lang/invoke/VarHandle" ∧ (parseMethodDescriptor yX2_renew.desc).map (fun d => d.parameters.length) = some 0 := ⟨by decide +kernel, by decide +kernel, by decide +kernel⟩
theorem in_X2_renew_X2 : ∀ w ∈ wsX20, w ∈ wsX2_renew := fun w h => List.mem_cons_of_mem _ (List.mem_append_right _ h)
abbrev rm_X2_enter : Room := { frames := 1, cells := 0, slots := 0, locals := 22 }
theorem hd_X2_enter : yX2_enter.cls ≠ "java/lang/invoke/MethodHandle" ∧ yX2_enter.cls ≠ "java/lang/invoke/VarHandle" ∧ (parseMethodDescriptor yX2_enter.desc).map (fun d => d.parameters.length) = some 3 := ⟨by decide +kernel, by decide +kernel, by decide +kernel⟩
theorem in_X2_enter_X2 : ∀ w ∈ wsX20, w ∈ wsX2_enter := fun w h => List.mem_cons_of_mem _ (List.mem_append_right _ h)
abbrev rm_X4_flashOf : Room := { frames := 0, cells := 0, slots := 0, locals := 0 }
theorem hd_X4_flashOf : yX4_flashOf.cls ≠ "java/lang/invoke/MethodHandle" ∧ yX4_flashOf.cls ≠ "java/lang/invoke/VarHandle" ∧ (parseMethodDescriptor yX4_flashOf.desc).map (fun d => d.parameters.length) = some 1 := ⟨by decide +kernel, by decide +kernel, by decide +kernel⟩
theorem in_X4_flashOf_X4 : ∀ w ∈ wsX40, w ∈ wsX4_flashOf := fun w h => List.mem_cons_of_mem _ (List.mem_append_right _ h)
abbrev rm_X5_who : Room := { frames := 0, cells := 0, slots := 0, locals := 0 }
theorem hd_X5_who : yX5_who.cls ≠ "java/lang/invoke/MethodHandle" ∧ yX5_who.cls ≠ "java/lang/invoke/VarHandle" ∧ (parseMethodDescriptor yX5_who.desc).map (fun d => d.parameters.length) = some 2 := ⟨by decide +kernel, by decide +kernel, by decide +kernel⟩
theorem in_X5_who_X5 : ∀ w ∈ wsX50, w ∈ wsX5_who := fun w h => List.mem_cons_of_mem _ (List.mem_append_right _ h)
abbrev rm_X3_flashAt : Room := { frames := 1, cells := 0, slots := 0, locals := 22 }
theorem hd_X3_flashAt : yX3_flashAt.cls ≠ "java/lang/invoke/MethodHandle" ∧ yX3_flashAt.cls ≠ "java/lang/invoke/VarHandle" ∧ (parseMethodDescriptor yX3_flashAt.desc).map (fun d => d.parameters.length) = some 2 := ⟨by decide +kernel, by decide +kernel, by decide +kernel⟩
theorem in_X3_flashAt_X3 : ∀ w ∈ wsX30, w ∈ wsX3_flashAt := fun w h => List.mem_cons_of_mem _ (List.mem_append_left _ (List.mem_append_left _ (List.mem_append_right _ h)))
theorem in_X3_flashAt_X5 : ∀ w ∈ wsX50, w ∈ wsX3_flashAt := fun w h => List.mem_cons_of_mem _ (List.mem_append_left _ (List.mem_append_right _ h))
theorem in_X3_flashAt_X4 : ∀ w ∈ wsX40, w ∈ wsX3_flashAt := fun w h => List.mem_cons_of_mem _ (List.mem_append_right _ h)
abbrev rm_X3_likes : Room := { frames := 2, cells := 0, slots := 0, locals := 44 }
theorem hd_X3_likes : yX3_likes.cls ≠ "java/lang/invoke/MethodHandle" ∧ yX3_likes.cls ≠ "java/lang/invoke/VarHandle" ∧ (parseMethodDescriptor yX3_likes.desc).map (fun d => d.parameters.length) = some 1 := ⟨by decide +kernel, by decide +kernel, by decide +kernel⟩
theorem in_X3_likes_X3 : ∀ w ∈ wsX30, w ∈ wsX3_likes := fun w h => List.mem_cons_of_mem _ (List.mem_append_left _ (List.mem_append_left _ (List.mem_append_right _ h)))
theorem in_X3_likes_X4 : ∀ w ∈ wsX40, w ∈ wsX3_likes := fun w h => List.mem_cons_of_mem _ (List.mem_append_left _ (List.mem_append_right _ h))
theorem in_X3_likes_X5 : ∀ w ∈ wsX50, w ∈ wsX3_likes := fun w h => List.mem_cons_of_mem _ (List.mem_append_right _ h)
abbrev rm_X2_reach : Room := { frames := 3, cells := 0, slots := 0, locals := 70 }
theorem hd_X2_reach : yX2_reach.cls ≠ "java/lang/invoke/MethodHandle" ∧ yX2_reach.cls ≠ "java/lang/invoke/VarHandle" ∧ (parseMethodDescriptor yX2_reach.desc).map (fun d => d.parameters.length) = some 3 := ⟨by decide +kernel, by decide +kernel, by decide +kernel⟩
theorem in_X2_reach_X2 : ∀ w ∈ wsX20, w ∈ wsX2_reach := fun w h => List.mem_cons_of_mem _ (List.mem_append_left _ (List.mem_append_left _ (List.mem_append_left _ (List.mem_append_right _ h))))
theorem in_X2_reach_X3 : ∀ w ∈ wsX30, w ∈ wsX2_reach := fun w h => List.mem_cons_of_mem _ (List.mem_append_left _ (List.mem_append_left _ (List.mem_append_right _ h)))
theorem in_X2_reach_X4 : ∀ w ∈ wsX40, w ∈ wsX2_reach := fun w h => List.mem_cons_of_mem _ (List.mem_append_left _ (List.mem_append_right _ h))
theorem in_X2_reach_X5 : ∀ w ∈ wsX50, w ∈ wsX2_reach := fun w h => List.mem_cons_of_mem _ (List.mem_append_right _ h)
abbrev rm_X5_changedAt : Room := { frames := 0, cells := 0, slots := 0, locals := 0 }
theorem hd_X5_changedAt : yX5_changedAt.cls ≠ "java/lang/invoke/MethodHandle" ∧ yX5_changedAt.cls ≠ "java/lang/invoke/VarHandle" ∧ (parseMethodDescriptor yX5_changedAt.desc).map (fun d => d.parameters.length) = some 2 := ⟨by decide +kernel, by decide +kernel, by decide +kernel⟩
theorem in_X5_changedAt_X5 : ∀ w ∈ wsX50, w ∈ wsX5_changedAt := fun w h => List.mem_cons_of_mem _ (List.mem_append_right _ h)
abbrev rm_X3_after : Room := { frames := 1, cells := 0, slots := 0, locals := 22 }
theorem hd_X3_after : yX3_after.cls ≠ "java/lang/invoke/MethodHandle" ∧ yX3_after.cls ≠ "java/lang/invoke/VarHandle" ∧ (parseMethodDescriptor yX3_after.desc).map (fun d => d.parameters.length) = some 2 := ⟨by decide +kernel, by decide +kernel, by decide +kernel⟩
theorem in_X3_after_X3 : ∀ w ∈ wsX30, w ∈ wsX3_after := fun w h => List.mem_cons_of_mem _ (List.mem_append_left _ (List.mem_append_right _ h))
theorem in_X3_after_X5 : ∀ w ∈ wsX50, w ∈ wsX3_after := fun w h => List.mem_cons_of_mem _ (List.mem_append_right _ h)
abbrev rm_X3_allows : Room := { frames := 0, cells := 0, slots := 0, locals := 0 }
theorem hd_X3_allows : yX3_allows.cls ≠ "java/lang/invoke/MethodHandle" ∧ yX3_allows.cls ≠ "java/lang/invoke/VarHandle" ∧ (parseMethodDescriptor yX3_allows.desc).map (fun d => d.parameters.length) = some 2 := ⟨by decide +kernel, by decide +kernel, by decide +kernel⟩
abbrev rm_X3_changes : Room := { frames := 0, cells := 0, slots := 0, locals := 0 }
theorem hd_X3_changes : yX3_changes.cls ≠ "java/lang/invoke/MethodHandle" ∧ yX3_changes.cls ≠ "java/lang/invoke/VarHandle" ∧ (parseMethodDescriptor yX3_changes.desc).map (fun d => d.parameters.length) = some 0 := ⟨by decide +kernel, by decide +kernel, by decide +kernel⟩
theorem in_X3_changes_X3 : ∀ w ∈ wsX30, w ∈ wsX3_changes := fun w h => List.mem_cons_of_mem _ (List.mem_append_left _ (List.mem_append_right _ h))
theorem in_X3_changes_X4 : ∀ w ∈ wsX40, w ∈ wsX3_changes := fun w h => List.mem_cons_of_mem _ (List.mem_append_right _ h)
abbrev rm_X3_willing : Room := { frames := 1, cells := 0, slots := 0, locals := 22 }
theorem hd_X3_willing : yX3_willing.cls ≠ "java/lang/invoke/MethodHandle" ∧ yX3_willing.cls ≠ "java/lang/invoke/VarHandle" ∧ (parseMethodDescriptor yX3_willing.desc).map (fun d => d.parameters.length) = some 1 := ⟨by decide +kernel, by decide +kernel, by decide +kernel⟩
theorem in_X3_willing_X3 : ∀ w ∈ wsX30, w ∈ wsX3_willing := fun w h => List.mem_cons_of_mem _ (List.mem_append_left _ (List.mem_append_left _ (List.mem_append_right _ h)))
theorem in_X3_willing_X4 : ∀ w ∈ wsX40, w ∈ wsX3_willing := fun w h => List.mem_cons_of_mem _ (List.mem_append_left _ (List.mem_append_right _ h))
theorem in_X3_willing_X5 : ∀ w ∈ wsX50, w ∈ wsX3_willing := fun w h => List.mem_cons_of_mem _ (List.mem_append_right _ h)
abbrev rm_X2_step : Room := { frames := 4, cells := 0, slots := 0, locals := 93 }
theorem hd_X2_step : yX2_step.cls ≠ "java/lang/invoke/MethodHandle" ∧ yX2_step.cls ≠ "java/lang/invoke/VarHandle" ∧ (parseMethodDescriptor yX2_step.desc).map (fun d => d.parameters.length) = some 1 := ⟨by decide +kernel, by decide +kernel, by decide +kernel⟩
theorem in_X2_step_X2 : ∀ w ∈ wsX20, w ∈ wsX2_step := fun w h => List.mem_cons_of_mem _ (List.mem_append_left _ (List.mem_append_left _ (List.mem_append_left _ (List.mem_append_right _ h))))
theorem in_X2_step_X3 : ∀ w ∈ wsX30, w ∈ wsX2_step := fun w h => List.mem_cons_of_mem _ (List.mem_append_left _ (List.mem_append_left _ (List.mem_append_right _ h)))
theorem in_X2_step_X4 : ∀ w ∈ wsX40, w ∈ wsX2_step := fun w h => List.mem_cons_of_mem _ (List.mem_append_left _ (List.mem_append_right _ h))
theorem in_X2_step_X5 : ∀ w ∈ wsX50, w ∈ wsX2_step := fun w h => List.mem_cons_of_mem _ (List.mem_append_right _ h)
abbrev rm_X2_spread : Room := { frames := 5, cells := 0, slots := 0, locals := 118 }
theorem hd_X2_spread : yX2_spread.cls ≠ "java/lang/invoke/MethodHandle" ∧ yX2_spread.cls ≠ "java/lang/invoke/VarHandle" ∧ (parseMethodDescriptor yX2_spread.desc).map (fun d => d.parameters.length) = some 1 := ⟨by decide +kernel, by decide +kernel, by decide +kernel⟩
theorem in_X2_spread_X2 : ∀ w ∈ wsX20, w ∈ wsX2_spread := fun w h => List.mem_cons_of_mem _ (List.mem_append_left _ (List.mem_append_left _ (List.mem_append_left _ (List.mem_append_right _ h))))
theorem in_X2_spread_X3 : ∀ w ∈ wsX30, w ∈ wsX2_spread := fun w h => List.mem_cons_of_mem _ (List.mem_append_left _ (List.mem_append_left _ (List.mem_append_right _ h)))
theorem in_X2_spread_X4 : ∀ w ∈ wsX40, w ∈ wsX2_spread := fun w h => List.mem_cons_of_mem _ (List.mem_append_left _ (List.mem_append_right _ h))
theorem in_X2_spread_X5 : ∀ w ∈ wsX50, w ∈ wsX2_spread := fun w h => List.mem_cons_of_mem _ (List.mem_append_right _ h)
abbrev rm_X2_moonsTo : Room := { frames := 1, cells := 0, slots := 0, locals := 21 }
theorem hd_X2_moonsTo : yX2_moonsTo.cls ≠ "java/lang/invoke/MethodHandle" ∧ yX2_moonsTo.cls ≠ "java/lang/invoke/VarHandle" ∧ (parseMethodDescriptor yX2_moonsTo.desc).map (fun d => d.parameters.length) = some 1 := ⟨by decide +kernel, by decide +kernel, by decide +kernel⟩
theorem in_X2_moonsTo_X2 : ∀ w ∈ wsX20, w ∈ wsX2_moonsTo := fun w h => List.mem_cons_of_mem _ (List.mem_append_right _ h)
abbrev rm_X2_firstTo : Room := { frames := 1, cells := 0, slots := 0, locals := 21 }
theorem hd_X2_firstTo : yX2_firstTo.cls ≠ "java/lang/invoke/MethodHandle" ∧ yX2_firstTo.cls ≠ "java/lang/invoke/VarHandle" ∧ (parseMethodDescriptor yX2_firstTo.desc).map (fun d => d.parameters.length) = some 1 := ⟨by decide +kernel, by decide +kernel, by decide +kernel⟩
theorem in_X2_firstTo_X2 : ∀ w ∈ wsX20, w ∈ wsX2_firstTo := fun w h => List.mem_cons_of_mem _ (List.mem_append_right _ h)
abbrev rm_X4_become : Room := { frames := 1, cells := 0, slots := 0, locals := 26 }
theorem hd_X4_become : yX4_become.cls ≠ "java/lang/invoke/MethodHandle" ∧ yX4_become.cls ≠ "java/lang/invoke/VarHandle" ∧ (parseMethodDescriptor yX4_become.desc).map (fun d => d.parameters.length) = some 1 := ⟨by decide +kernel, by decide +kernel, by decide +kernel⟩
theorem in_X4_become_X4 : ∀ w ∈ wsX40, w ∈ wsX4_become := fun w h => List.mem_cons_of_mem _ (List.mem_append_right _ h)
abbrev rm_X5_factorial : Room := { frames := 0, cells := 0, slots := 0, locals := 0 }
theorem hd_X5_factorial : yX5_factorial.cls ≠ "java/lang/invoke/MethodHandle" ∧ yX5_factorial.cls ≠ "java/lang/invoke/VarHandle" ∧ (parseMethodDescriptor yX5_factorial.desc).map (fun d => d.parameters.length) = some 1 := ⟨by decide +kernel, by decide +kernel, by decide +kernel⟩
abbrev rm_X5_freeKeeper : Room := { frames := 0, cells := 0, slots := 0, locals := 0 }
theorem hd_X5_freeKeeper : yX5_freeKeeper.cls ≠ "java/lang/invoke/MethodHandle" ∧ yX5_freeKeeper.cls ≠ "java/lang/invoke/VarHandle" ∧ (parseMethodDescriptor yX5_freeKeeper.desc).map (fun d => d.parameters.length) = some 2 := ⟨by decide +kernel, by decide +kernel, by decide +kernel⟩
abbrev rm_X5_fillRow : Room := { frames := 1, cells := 0, slots := 0, locals := 23 }
theorem hd_X5_fillRow : yX5_fillRow.cls ≠ "java/lang/invoke/MethodHandle" ∧ yX5_fillRow.cls ≠ "java/lang/invoke/VarHandle" ∧ (parseMethodDescriptor yX5_fillRow.desc).map (fun d => d.parameters.length) = some 1 := ⟨by decide +kernel, by decide +kernel, by decide +kernel⟩
theorem in_X5_fillRow_X5 : ∀ w ∈ wsX50, w ∈ wsX5_fillRow := fun w h => List.mem_cons_of_mem _ (List.mem_append_right _ h)
abbrev rm_J6_bitCount_0f7a4 : Room := { frames := 0, cells := 0, slots := 0, locals := 0 }
theorem hd_J6_bitCount_0f7a4 : yJ6_bitCount_0f7a4.cls ≠ "java/lang/invoke/MethodHandle" ∧ yJ6_bitCount_0f7a4.cls ≠ "java/lang/invoke/VarHandle" ∧ (parseMethodDescriptor yJ6_bitCount_0f7a4.desc).map (fun d => d.parameters.length) = some 1 := ⟨by decide +kernel, by decide +kernel, by decide +kernel⟩
abbrev rm_X5_numberOfRow : Room := { frames := 1, cells := 0, slots := 0, locals := 21 }
theorem hd_X5_numberOfRow : yX5_numberOfRow.cls ≠ "java/lang/invoke/MethodHandle" ∧ yX5_numberOfRow.cls ≠ "java/lang/invoke/VarHandle" ∧ (parseMethodDescriptor yX5_numberOfRow.desc).map (fun d => d.parameters.length) = some 0 := ⟨by decide +kernel, by decide +kernel, by decide +kernel⟩
theorem in_X5_numberOfRow_X5 : ∀ w ∈ wsX50, w ∈ wsX5_numberOfRow := fun w h => List.mem_cons_of_mem _ (List.mem_append_right _ h)
abbrev rm_X5_swapInRow : Room := { frames := 1, cells := 0, slots := 0, locals := 22 }
theorem hd_X5_swapInRow : yX5_swapInRow.cls ≠ "java/lang/invoke/MethodHandle" ∧ yX5_swapInRow.cls ≠ "java/lang/invoke/VarHandle" ∧ (parseMethodDescriptor yX5_swapInRow.desc).map (fun d => d.parameters.length) = some 1 := ⟨by decide +kernel, by decide +kernel, by decide +kernel⟩
theorem in_X5_swapInRow_X5 : ∀ w ∈ wsX50, w ∈ wsX5_swapInRow := fun w h => List.mem_cons_of_mem _ (List.mem_append_right _ h)
abbrev rm_X5_become : Room := { frames := 2, cells := 0, slots := 0, locals := 49 }
theorem hd_X5_become : yX5_become.cls ≠ "java/lang/invoke/MethodHandle" ∧ yX5_become.cls ≠ "java/lang/invoke/VarHandle" ∧ (parseMethodDescriptor yX5_become.desc).map (fun d => d.parameters.length) = some 1 := ⟨by decide +kernel, by decide +kernel, by decide +kernel⟩
theorem in_X5_become_X5 : ∀ w ∈ wsX50, w ∈ wsX5_become := fun w h => List.mem_cons_of_mem _ (List.mem_append_right _ h)
abbrev rm_X3_become : Room := { frames := 3, cells := 0, slots := 0, locals := 72 }
theorem hd_X3_become : yX3_become.cls ≠ "java/lang/invoke/MethodHandle" ∧ yX3_become.cls ≠ "java/lang/invoke/VarHandle" ∧ (parseMethodDescriptor yX3_become.desc).map (fun d => d.parameters.length) = some 1 := ⟨by decide +kernel, by decide +kernel, by decide +kernel⟩
theorem in_X3_become_X3 : ∀ w ∈ wsX30, w ∈ wsX3_become := fun w h => List.mem_cons_of_mem _ (List.mem_append_left _ (List.mem_append_left _ (List.mem_append_right _ h)))
theorem in_X3_become_X4 : ∀ w ∈ wsX40, w ∈ wsX3_become := fun w h => List.mem_cons_of_mem _ (List.mem_append_left _ (List.mem_append_right _ h))
theorem in_X3_become_X5 : ∀ w ∈ wsX50, w ∈ wsX3_become := fun w h => List.mem_cons_of_mem _ (List.mem_append_right _ h)
abbrev rm_X3_calmest : Room := { frames := 3, cells := 0, slots := 0, locals := 70 }
theorem hd_X3_calmest : yX3_calmest.cls ≠ "java/lang/invoke/MethodHandle" ∧ yX3_calmest.cls ≠ "java/lang/invoke/VarHandle" ∧ (parseMethodDescriptor yX3_calmest.desc).map (fun d => d.parameters.length) = some 1 := ⟨by decide +kernel, by decide +kernel, by decide +kernel⟩
theorem in_X3_calmest_X3 : ∀ w ∈ wsX30, w ∈ wsX3_calmest := fun w h => List.mem_cons_of_mem _ (List.mem_append_left _ (List.mem_append_left _ (List.mem_append_right _ h)))
theorem in_X3_calmest_X4 : ∀ w ∈ wsX40, w ∈ wsX3_calmest := fun w h => List.mem_cons_of_mem _ (List.mem_append_left _ (List.mem_append_right _ h))
theorem in_X3_calmest_X5 : ∀ w ∈ wsX50, w ∈ wsX3_calmest := fun w h => List.mem_cons_of_mem _ (List.mem_append_right _ h)
abbrev rm_X5_rockOf : Room := { frames := 1, cells := 0, slots := 0, locals := 22 }
theorem hd_X5_rockOf : yX5_rockOf.cls ≠ "java/lang/invoke/MethodHandle" ∧ yX5_rockOf.cls ≠ "java/lang/invoke/VarHandle" ∧ (parseMethodDescriptor yX5_rockOf.desc).map (fun d => d.parameters.length) = some 2 := ⟨by decide +kernel, by decide +kernel, by decide +kernel⟩
theorem in_X5_rockOf_X5 : ∀ w ∈ wsX50, w ∈ wsX5_rockOf := fun w h => List.mem_cons_of_mem _ (List.mem_append_right _ h)
abbrev rm_X6_type : Room := { frames := 2, cells := 0, slots := 0, locals := 43 }
theorem hd_X6_type : yX6_type.cls ≠ "java/lang/invoke/MethodHandle" ∧ yX6_type.cls ≠ "java/lang/invoke/VarHandle" ∧ (parseMethodDescriptor yX6_type.desc).map (fun d => d.parameters.length) = some 1 := ⟨by decide +kernel, by decide +kernel, by decide +kernel⟩
theorem in_X6_type_X6 : ∀ w ∈ wsX60, w ∈ wsX6_type := fun w h => List.mem_cons_of_mem _ (List.mem_append_left _ (List.mem_append_right _ h))
theorem in_X6_type_X1 : ∀ w ∈ wsX10, w ∈ wsX6_type := fun w h => List.mem_cons_of_mem _ (List.mem_append_right _ h)
abbrev rm_X6_clear : Room := { frames := 0, cells := 0, slots := 0, locals := 0 }
theorem hd_X6_clear : yX6_clear.cls ≠ "java/lang/invoke/MethodHandle" ∧ yX6_clear.cls ≠ "java/lang/invoke/VarHandle" ∧ (parseMethodDescriptor yX6_clear.desc).map (fun d => d.parameters.length) = some 0 := ⟨by decide +kernel, by decide +kernel, by decide +kernel⟩
theorem in_X6_clear_X6 : ∀ w ∈ wsX60, w ∈ wsX6_clear := fun w h => List.mem_cons_of_mem _ (List.mem_append_left _ (List.mem_append_right _ h))
theorem in_X6_clear_X1 : ∀ w ∈ wsX10, w ∈ wsX6_clear := fun w h => List.mem_cons_of_mem _ (List.mem_append_right _ h)
abbrev rm_X6_coast : Room := { frames := 6, cells := 0, slots := 0, locals := 136 }
theorem hd_X6_coast : yX6_coast.cls ≠ "java/lang/invoke/MethodHandle" ∧ yX6_coast.cls ≠ "java/lang/invoke/VarHandle" ∧ (parseMethodDescriptor yX6_coast.desc).map (fun d => d.parameters.length) = some 0 := ⟨by decide +kernel, by decide +kernel, by decide +kernel⟩
theorem in_X6_coast_X6 : ∀ w ∈ wsX60, w ∈ wsX6_coast := fun w h => List.mem_cons_of_mem _ (List.mem_append_left _ (List.mem_append_left _ (List.mem_append_left _ (List.mem_append_left _ (List.mem_append_left _ (List.mem_append_left _ (List.mem_append_right _ h)))))))
theorem in_X6_coast_X1 : ∀ w ∈ wsX10, w ∈ wsX6_coast := fun w h => List.mem_cons_of_mem _ (List.mem_append_left _ (List.mem_append_left _ (List.mem_append_left _ (List.mem_append_left _ (List.mem_append_left _ (List.mem_append_right _ h))))))
theorem in_X6_coast_X4 : ∀ w ∈ wsX40, w ∈ wsX6_coast := fun w h => List.mem_cons_of_mem _ (List.mem_append_left _ (List.mem_append_left _ (List.mem_append_left _ (List.mem_append_left _ (List.mem_append_right _ h)))))
theorem in_X6_coast_X3 : ∀ w ∈ wsX30, w ∈ wsX6_coast := fun w h => List.mem_cons_of_mem _ (List.mem_append_left _ (List.mem_append_left _ (List.mem_append_left _ (List.mem_append_right _ h))))
theorem in_X6_coast_X5 : ∀ w ∈ wsX50, w ∈ wsX6_coast := fun w h => List.mem_cons_of_mem _ (List.mem_append_left _ (List.mem_append_left _ (List.mem_append_right _ h)))
theorem in_X6_coast_X2 : ∀ w ∈ wsX20, w ∈ wsX6_coast := fun w h => List.mem_cons_of_mem _ (List.mem_append_left _ (List.mem_append_right _ h))
theorem in_X6_coast_X0 : ∀ w ∈ wsX00, w ∈ wsX6_coast := fun w h => List.mem_cons_of_mem _ (List.mem_append_right _ h)
abbrev rm_X6_driftOf : Room := { frames := 2, cells := 0, slots := 0, locals := 45 }
theorem hd_X6_driftOf : yX6_driftOf.cls ≠ "java/lang/invoke/MethodHandle" ∧ yX6_driftOf.cls ≠ "java/lang/invoke/VarHandle" ∧ (parseMethodDescriptor yX6_driftOf.desc).map (fun d => d.parameters.length) = some 1 := ⟨by decide +kernel, by decide +kernel, by decide +kernel⟩
theorem in_X6_driftOf_X6 : ∀ w ∈ wsX60, w ∈ wsX6_driftOf := fun w h => List.mem_cons_of_mem _ (List.mem_append_left _ (List.mem_append_left _ (List.mem_append_left _ (List.mem_append_right _ h))))
theorem in_X6_driftOf_X3 : ∀ w ∈ wsX30, w ∈ wsX6_driftOf := fun w h => List.mem_cons_of_mem _ (List.mem_append_left _ (List.mem_append_left _ (List.mem_append_right _ h)))
theorem in_X6_driftOf_X0 : ∀ w ∈ wsX00, w ∈ wsX6_driftOf := fun w h => List.mem_cons_of_mem _ (List.mem_append_left _ (List.mem_append_right _ h))
theorem in_X6_driftOf_X5 : ∀ w ∈ wsX50, w ∈ wsX6_driftOf := fun w h => List.mem_cons_of_mem _ (List.mem_append_right _ h)
abbrev rm_X6_isKeeper : Room := { frames := 0, cells := 0, slots := 0, locals := 0 }
theorem hd_X6_isKeeper : yX6_isKeeper.cls ≠ "java/lang/invoke/MethodHandle" ∧ yX6_isKeeper.cls ≠ "java/lang/invoke/VarHandle" ∧ (parseMethodDescriptor yX6_isKeeper.desc).map (fun d => d.parameters.length) = some 1 := ⟨by decide +kernel, by decide +kernel, by decide +kernel⟩
theorem in_X6_isKeeper_X6 : ∀ w ∈ wsX60, w ∈ wsX6_isKeeper := fun w h => List.mem_cons_of_mem _ (List.mem_append_left _ (List.mem_append_left _ (List.mem_append_right _ h)))
theorem in_X6_isKeeper_X3 : ∀ w ∈ wsX30, w ∈ wsX6_isKeeper := fun w h => List.mem_cons_of_mem _ (List.mem_append_left _ (List.mem_append_right _ h))
theorem in_X6_isKeeper_X4 : ∀ w ∈ wsX40, w ∈ wsX6_isKeeper := fun w h => List.mem_cons_of_mem _ (List.mem_append_right _ h)
abbrev rm_X6_isOut : Room := { frames := 0, cells := 0, slots := 0, locals := 0 }
theorem hd_X6_isOut : yX6_isOut.cls ≠ "java/lang/invoke/MethodHandle" ∧ yX6_isOut.cls ≠ "java/lang/invoke/VarHandle" ∧ (parseMethodDescriptor yX6_isOut.desc).map (fun d => d.parameters.length) = some 1 := ⟨by decide +kernel, by decide +kernel, by decide +kernel⟩
theorem in_X6_isOut_X6 : ∀ w ∈ wsX60, w ∈ wsX6_isOut := fun w h => List.mem_cons_of_mem _ (List.mem_append_left _ (List.mem_append_right _ h))
theorem in_X6_isOut_X0 : ∀ w ∈ wsX00, w ∈ wsX6_isOut := fun w h => List.mem_cons_of_mem _ (List.mem_append_right _ h)
abbrev rm_X6_keeper : Room := { frames := 3, cells := 0, slots := 0, locals := 66 }
theorem hd_X6_keeper : yX6_keeper.cls ≠ "java/lang/invoke/MethodHandle" ∧ yX6_keeper.cls ≠ "java/lang/invoke/VarHandle" ∧ (parseMethodDescriptor yX6_keeper.desc).map (fun d => d.parameters.length) = some 2 := ⟨by decide +kernel, by decide +kernel, by decide +kernel⟩
theorem in_X6_keeper_X6 : ∀ w ∈ wsX60, w ∈ wsX6_keeper := fun w h => List.mem_cons_of_mem _ (List.mem_append_left _ (List.mem_append_left _ (List.mem_append_left _ (List.mem_append_left _ (List.mem_append_right _ h)))))
theorem in_X6_keeper_X3 : ∀ w ∈ wsX30, w ∈ wsX6_keeper := fun w h => List.mem_cons_of_mem _ (List.mem_append_left _ (List.mem_append_left _ (List.mem_append_left _ (List.mem_append_right _ h))))
theorem in_X6_keeper_X0 : ∀ w ∈ wsX00, w ∈ wsX6_keeper := fun w h => List.mem_cons_of_mem _ (List.mem_append_left _ (List.mem_append_left _ (List.mem_append_right _ h)))
theorem in_X6_keeper_X4 : ∀ w ∈ wsX40, w ∈ wsX6_keeper := fun w h => List.mem_cons_of_mem _ (List.mem_append_left _ (List.mem_append_right _ h))
theorem in_X6_keeper_X5 : ∀ w ∈ wsX50, w ∈ wsX6_keeper := fun w h => List.mem_cons_of_mem _ (List.mem_append_right _ h)
abbrev rm_X6_isRock : Room := { frames := 1, cells := 0, slots := 0, locals := 21 }
theorem hd_X6_isRock : yX6_isRock.cls ≠ "java/lang/invoke/MethodHandle" ∧ yX6_isRock.cls ≠ "java/lang/invoke/VarHandle" ∧ (parseMethodDescriptor yX6_isRock.desc).map (fun d => d.parameters.length) = some 1 := ⟨by decide +kernel, by decide +kernel, by decide +kernel⟩
theorem in_X6_isRock_X6 : ∀ w ∈ wsX60, w ∈ wsX6_isRock := fun w h => List.mem_cons_of_mem _ (List.mem_append_left _ (List.mem_append_left _ (List.mem_append_right _ h)))
theorem in_X6_isRock_X3 : ∀ w ∈ wsX30, w ∈ wsX6_isRock := fun w h => List.mem_cons_of_mem _ (List.mem_append_left _ (List.mem_append_right _ h))
theorem in_X6_isRock_X4 : ∀ w ∈ wsX40, w ∈ wsX6_isRock := fun w h => List.mem_cons_of_mem _ (List.mem_append_right _ h)
abbrev rm_X6_rock : Room := { frames := 2, cells := 0, slots := 0, locals := 42 }
theorem hd_X6_rock : yX6_rock.cls ≠ "java/lang/invoke/MethodHandle" ∧ yX6_rock.cls ≠ "java/lang/invoke/VarHandle" ∧ (parseMethodDescriptor yX6_rock.desc).map (fun d => d.parameters.length) = some 1 := ⟨by decide +kernel, by decide +kernel, by decide +kernel⟩
theorem in_X6_rock_X6 : ∀ w ∈ wsX60, w ∈ wsX6_rock := fun w h => List.mem_cons_of_mem _ (List.mem_append_left _ (List.mem_append_left _ (List.mem_append_left _ (List.mem_append_left _ (List.mem_append_right _ h)))))
theorem in_X6_rock_X3 : ∀ w ∈ wsX30, w ∈ wsX6_rock := fun w h => List.mem_cons_of_mem _ (List.mem_append_left _ (List.mem_append_left _ (List.mem_append_left _ (List.mem_append_right _ h))))
theorem in_X6_rock_X0 : ∀ w ∈ wsX00, w ∈ wsX6_rock := fun w h => List.mem_cons_of_mem _ (List.mem_append_left _ (List.mem_append_left _ (List.mem_append_right _ h)))
theorem in_X6_rock_X4 : ∀ w ∈ wsX40, w ∈ wsX6_rock := fun w h => List.mem_cons_of_mem _ (List.mem_append_left _ (List.mem_append_right _ h))
theorem in_X6_rock_X5 : ∀ w ∈ wsX50, w ∈ wsX6_rock := fun w h => List.mem_cons_of_mem _ (List.mem_append_right _ h)
abbrev rm_X6_flashesNotOut : Room := { frames := 1, cells := 0, slots := 0, locals := 21 }
theorem hd_X6_flashesNotOut : yX6_flashesNotOut.cls ≠ "java/lang/invoke/MethodHandle" ∧ yX6_flashesNotOut.cls ≠ "java/lang/invoke/VarHandle" ∧ (parseMethodDescriptor yX6_flashesNotOut.desc).map (fun d => d.parameters.length) = some 0 := ⟨by decide +kernel, by decide +kernel, by decide +kernel⟩
theorem in_X6_flashesNotOut_X6 : ∀ w ∈ wsX60, w ∈ wsX6_flashesNotOut := fun w h => List.mem_cons_of_mem _ (List.mem_append_left _ (List.mem_append_left _ (List.mem_append_left _ (List.mem_append_right _ h))))
theorem in_X6_flashesNotOut_X3 : ∀ w ∈ wsX30, w ∈ wsX6_flashesNotOut := fun w h => List.mem_cons_of_mem _ (List.mem_append_left _ (List.mem_append_left _ (List.mem_append_right _ h)))
theorem in_X6_flashesNotOut_X4 : ∀ w ∈ wsX40, w ∈ wsX6_flashesNotOut := fun w h => List.mem_cons_of_mem _ (List.mem_append_left _ (List.mem_append_right _ h))
theorem in_X6_flashesNotOut_X0 : ∀ w ∈ wsX00, w ∈ wsX6_flashesNotOut := fun w h => List.mem_cons_of_mem _ (List.mem_append_right _ h)
abbrev rm_X6_moon : Room := { frames := 2, cells := 0, slots := 0, locals := 47 }
theorem hd_X6_moon : yX6_moon.cls ≠ "java/lang/invoke/MethodHandle" ∧ yX6_moon.cls ≠ "java/lang/invoke/VarHandle" ∧ (parseMethodDescriptor yX6_moon.desc).map (fun d => d.parameters.length) = some 1 := ⟨by decide +kernel, by decide +kernel, by decide +kernel⟩
theorem in_X6_moon_X6 : ∀ w ∈ wsX60, w ∈ wsX6_moon := fun w h => List.mem_cons_of_mem _ (List.mem_append_left _ (List.mem_append_left _ (List.mem_append_left _ (List.mem_append_left _ (List.mem_append_right _ h)))))
theorem in_X6_moon_X0 : ∀ w ∈ wsX00, w ∈ wsX6_moon := fun w h => List.mem_cons_of_mem _ (List.mem_append_left _ (List.mem_append_left _ (List.mem_append_left _ (List.mem_append_right _ h))))
theorem in_X6_moon_X3 : ∀ w ∈ wsX30, w ∈ wsX6_moon := fun w h => List.mem_cons_of_mem _ (List.mem_append_left _ (List.mem_append_left _ (List.mem_append_right _ h)))
theorem in_X6_moon_X4 : ∀ w ∈ wsX40, w ∈ wsX6_moon := fun w h => List.mem_cons_of_mem _ (List.mem_append_left _ (List.mem_append_right _ h))
theorem in_X6_moon_X5 : ∀ w ∈ wsX50, w ∈ wsX6_moon := fun w h => List.mem_cons_of_mem _ (List.mem_append_right _ h)
abbrev rm_X6_isZeroOrOne : Room := { frames := 0, cells := 0, slots := 0, locals := 0 }
theorem hd_X6_isZeroOrOne : yX6_isZeroOrOne.cls ≠ "java/lang/invoke/MethodHandle" ∧ yX6_isZeroOrOne.cls ≠ "java/lang/invoke/VarHandle" ∧ (parseMethodDescriptor yX6_isZeroOrOne.desc).map (fun d => d.parameters.length) = some 1 := ⟨by decide +kernel, by decide +kernel, by decide +kernel⟩
abbrev rm_X6_puts : Room := { frames := 2, cells := 0, slots := 0, locals := 47 }
theorem hd_X6_puts : yX6_puts.cls ≠ "java/lang/invoke/MethodHandle" ∧ yX6_puts.cls ≠ "java/lang/invoke/VarHandle" ∧ (parseMethodDescriptor yX6_puts.desc).map (fun d => d.parameters.length) = some 2 := ⟨by decide +kernel, by decide +kernel, by decide +kernel⟩
theorem in_X6_puts_X6 : ∀ w ∈ wsX60, w ∈ wsX6_puts := fun w h => List.mem_cons_of_mem _ (List.mem_append_left _ (List.mem_append_left _ (List.mem_append_left _ (List.mem_append_right _ h))))
theorem in_X6_puts_X0 : ∀ w ∈ wsX00, w ∈ wsX6_puts := fun w h => List.mem_cons_of_mem _ (List.mem_append_left _ (List.mem_append_left _ (List.mem_append_right _ h)))
theorem in_X6_puts_X3 : ∀ w ∈ wsX30, w ∈ wsX6_puts := fun w h => List.mem_cons_of_mem _ (List.mem_append_left _ (List.mem_append_right _ h))
theorem in_X6_puts_X4 : ∀ w ∈ wsX40, w ∈ wsX6_puts := fun w h => List.mem_cons_of_mem _ (List.mem_append_right _ h)
abbrev rm_X6_undo : Room := { frames := 2, cells := 0, slots := 0, locals := 42 }
theorem hd_X6_undo : yX6_undo.cls ≠ "java/lang/invoke/MethodHandle" ∧ yX6_undo.cls ≠ "java/lang/invoke/VarHandle" ∧ (parseMethodDescriptor yX6_undo.desc).map (fun d => d.parameters.length) = some 0 := ⟨by decide +kernel, by decide +kernel, by decide +kernel⟩
theorem in_X6_undo_X6 : ∀ w ∈ wsX60, w ∈ wsX6_undo := fun w h => List.mem_cons_of_mem _ (List.mem_append_left _ (List.mem_append_right _ h))
theorem in_X6_undo_X0 : ∀ w ∈ wsX00, w ∈ wsX6_undo := fun w h => List.mem_cons_of_mem _ (List.mem_append_right _ h)
abbrev rm_X6_drifts : Room := { frames := 3, cells := 0, slots := 0, locals := 66 }
theorem hd_X6_drifts : yX6_drifts.cls ≠ "java/lang/invoke/MethodHandle" ∧ yX6_drifts.cls ≠ "java/lang/invoke/VarHandle" ∧ (parseMethodDescriptor yX6_drifts.desc).map (fun d => d.parameters.length) = some 0 := ⟨by decide +kernel, by decide +kernel, by decide +kernel⟩
theorem in_X6_drifts_X6 : ∀ w ∈ wsX60, w ∈ wsX6_drifts := fun w h => List.mem_cons_of_mem _ (List.mem_append_left _ (List.mem_append_left _ (List.mem_append_left _ (List.mem_append_left _ (List.mem_append_right _ h)))))
theorem in_X6_drifts_X3 : ∀ w ∈ wsX30, w ∈ wsX6_drifts := fun w h => List.mem_cons_of_mem _ (List.mem_append_left _ (List.mem_append_left _ (List.mem_append_left _ (List.mem_append_right _ h))))
theorem in_X6_drifts_X4 : ∀ w ∈ wsX40, w ∈ wsX6_drifts := fun w h => List.mem_cons_of_mem _ (List.mem_append_left _ (List.mem_append_left _ (List.mem_append_right _ h)))
theorem in_X6_drifts_X0 : ∀ w ∈ wsX00, w ∈ wsX6_drifts := fun w h => List.mem_cons_of_mem _ (List.mem_append_left _ (List.mem_append_right _ h))
theorem in_X6_drifts_X5 : ∀ w ∈ wsX50, w ∈ wsX6_drifts := fun w h => List.mem_cons_of_mem _ (List.mem_append_right _ h)
abbrev rm_X6_now : Room := { frames := 4, cells := 0, slots := 0, locals := 97 }
theorem hd_X6_now : yX6_now.cls ≠ "java/lang/invoke/MethodHandle" ∧ yX6_now.cls ≠ "java/lang/invoke/VarHandle" ∧ (parseMethodDescriptor yX6_now.desc).map (fun d => d.parameters.length) = some 1 := ⟨by decide +kernel, by decide +kernel, by decide +kernel⟩
theorem in_X6_now_X6 : ∀ w ∈ wsX60, w ∈ wsX6_now := fun w h => List.mem_cons_of_mem _ (List.mem_append_left _ (List.mem_append_left _ (List.mem_append_left _ (List.mem_append_left _ (List.mem_append_right _ h)))))
theorem in_X6_now_X0 : ∀ w ∈ wsX00, w ∈ wsX6_now := fun w h => List.mem_cons_of_mem _ (List.mem_append_left _ (List.mem_append_left _ (List.mem_append_left _ (List.mem_append_right _ h))))
theorem in_X6_now_X3 : ∀ w ∈ wsX30, w ∈ wsX6_now := fun w h => List.mem_cons_of_mem _ (List.mem_append_left _ (List.mem_append_left _ (List.mem_append_right _ h)))
theorem in_X6_now_X4 : ∀ w ∈ wsX40, w ∈ wsX6_now := fun w h => List.mem_cons_of_mem _ (List.mem_append_left _ (List.mem_append_right _ h))
theorem in_X6_now_X5 : ∀ w ∈ wsX50, w ∈ wsX6_now := fun w h => List.mem_cons_of_mem _ (List.mem_append_right _ h)
abbrev rm_X6_searchOf : Room := { frames := 0, cells := 0, slots := 0, locals := 0 }
theorem hd_X6_searchOf : yX6_searchOf.cls ≠ "java/lang/invoke/MethodHandle" ∧ yX6_searchOf.cls ≠ "java/lang/invoke/VarHandle" ∧ (parseMethodDescriptor yX6_searchOf.desc).map (fun d => d.parameters.length) = some 1 := ⟨by decide +kernel, by decide +kernel, by decide +kernel⟩
theorem in_X6_searchOf_X6 : ∀ w ∈ wsX60, w ∈ wsX6_searchOf := fun w h => List.mem_cons_of_mem _ (List.mem_append_right _ h)
abbrev rm_X6_homeward : Room := { frames := 6, cells := 0, slots := 0, locals := 140 }
theorem hd_X6_homeward : yX6_homeward.cls ≠ "java/lang/invoke/MethodHandle" ∧ yX6_homeward.cls ≠ "java/lang/invoke/VarHandle" ∧ (parseMethodDescriptor yX6_homeward.desc).map (fun d => d.parameters.length) = some 2 := ⟨by decide +kernel, by decide +kernel, by decide +kernel⟩
theorem in_X6_homeward_X6 : ∀ w ∈ wsX60, w ∈ wsX6_homeward := fun w h => List.mem_cons_of_mem _ (List.mem_append_left _ (List.mem_append_left _ (List.mem_append_left _ (List.mem_append_left _ (List.mem_append_left _ (List.mem_append_right _ h))))))
theorem in_X6_homeward_X0 : ∀ w ∈ wsX00, w ∈ wsX6_homeward := fun w h => List.mem_cons_of_mem _ (List.mem_append_left _ (List.mem_append_left _ (List.mem_append_left _ (List.mem_append_left _ (List.mem_append_right _ h)))))
theorem in_X6_homeward_X2 : ∀ w ∈ wsX20, w ∈ wsX6_homeward := fun w h => List.mem_cons_of_mem _ (List.mem_append_left _ (List.mem_append_left _ (List.mem_append_left _ (List.mem_append_right _ h))))
theorem in_X6_homeward_X3 : ∀ w ∈ wsX30, w ∈ wsX6_homeward := fun w h => List.mem_cons_of_mem _ (List.mem_append_left _ (List.mem_append_left _ (List.mem_append_right _ h)))
theorem in_X6_homeward_X4 : ∀ w ∈ wsX40, w ∈ wsX6_homeward := fun w h => List.mem_cons_of_mem _ (List.mem_append_left _ (List.mem_append_right _ h))
theorem in_X6_homeward_X5 : ∀ w ∈ wsX50, w ∈ wsX6_homeward := fun w h => List.mem_cons_of_mem _ (List.mem_append_right _ h)
abbrev rm_X6_fewer : Room := { frames := 1, cells := 0, slots := 0, locals := 26 }
theorem hd_X6_fewer : yX6_fewer.cls ≠ "java/lang/invoke/MethodHandle" ∧ yX6_fewer.cls ≠ "java/lang/invoke/VarHandle" ∧ (parseMethodDescriptor yX6_fewer.desc).map (fun d => d.parameters.length) = some 2 := ⟨by decide +kernel, by decide +kernel, by decide +kernel⟩
abbrev rm_X6_trade : Room := { frames := 6, cells := 0, slots := 0, locals := 140 }
theorem hd_X6_trade : yX6_trade.cls ≠ "java/lang/invoke/MethodHandle" ∧ yX6_trade.cls ≠ "java/lang/invoke/VarHandle" ∧ (parseMethodDescriptor yX6_trade.desc).map (fun d => d.parameters.length) = some 3 := ⟨by decide +kernel, by decide +kernel, by decide +kernel⟩
theorem in_X6_trade_X6 : ∀ w ∈ wsX60, w ∈ wsX6_trade := fun w h => List.mem_cons_of_mem _ (List.mem_append_left _ (List.mem_append_left _ (List.mem_append_left _ (List.mem_append_left _ (List.mem_append_left _ (List.mem_append_right _ h))))))
theorem in_X6_trade_X0 : ∀ w ∈ wsX00, w ∈ wsX6_trade := fun w h => List.mem_cons_of_mem _ (List.mem_append_left _ (List.mem_append_left _ (List.mem_append_left _ (List.mem_append_left _ (List.mem_append_right _ h)))))
theorem in_X6_trade_X3 : ∀ w ∈ wsX30, w ∈ wsX6_trade := fun w h => List.mem_cons_of_mem _ (List.mem_append_left _ (List.mem_append_left _ (List.mem_append_left _ (List.mem_append_right _ h))))
theorem in_X6_trade_X5 : ∀ w ∈ wsX50, w ∈ wsX6_trade := fun w h => List.mem_cons_of_mem _ (List.mem_append_left _ (List.mem_append_left _ (List.mem_append_right _ h)))
theorem in_X6_trade_X4 : ∀ w ∈ wsX40, w ∈ wsX6_trade := fun w h => List.mem_cons_of_mem _ (List.mem_append_left _ (List.mem_append_right _ h))
theorem in_X6_trade_X2 : ∀ w ∈ wsX20, w ∈ wsX6_trade := fun w h => List.mem_cons_of_mem _ (List.mem_append_right _ h)
abbrev rm_X6_isFlash : Room := { frames := 0, cells := 0, slots := 0, locals := 0 }
theorem hd_X6_isFlash : yX6_isFlash.cls ≠ "java/lang/invoke/MethodHandle" ∧ yX6_isFlash.cls ≠ "java/lang/invoke/VarHandle" ∧ (parseMethodDescriptor yX6_isFlash.desc).map (fun d => d.parameters.length) = some 1 := ⟨by decide +kernel, by decide +kernel, by decide +kernel⟩
abbrev rm_X6_shines : Room := { frames := 1, cells := 0, slots := 0, locals := 22 }
theorem hd_X6_shines : yX6_shines.cls ≠ "java/lang/invoke/MethodHandle" ∧ yX6_shines.cls ≠ "java/lang/invoke/VarHandle" ∧ (parseMethodDescriptor yX6_shines.desc).map (fun d => d.parameters.length) = some 2 := ⟨by decide +kernel, by decide +kernel, by decide +kernel⟩
theorem in_X6_shines_X6 : ∀ w ∈ wsX60, w ∈ wsX6_shines := fun w h => List.mem_cons_of_mem _ (List.mem_append_left _ (List.mem_append_left _ (List.mem_append_left _ (List.mem_append_left _ (List.mem_append_right _ h)))))
theorem in_X6_shines_X3 : ∀ w ∈ wsX30, w ∈ wsX6_shines := fun w h => List.mem_cons_of_mem _ (List.mem_append_left _ (List.mem_append_left _ (List.mem_append_left _ (List.mem_append_right _ h))))
theorem in_X6_shines_X0 : ∀ w ∈ wsX00, w ∈ wsX6_shines := fun w h => List.mem_cons_of_mem _ (List.mem_append_left _ (List.mem_append_left _ (List.mem_append_right _ h)))
theorem in_X6_shines_X5 : ∀ w ∈ wsX50, w ∈ wsX6_shines := fun w h => List.mem_cons_of_mem _ (List.mem_append_left _ (List.mem_append_right _ h))
theorem in_X6_shines_X4 : ∀ w ∈ wsX40, w ∈ wsX6_shines := fun w h => List.mem_cons_of_mem _ (List.mem_append_right _ h)
abbrev rm_X6_ship : Room := { frames := 2, cells := 0, slots := 0, locals := 45 }
theorem hd_X6_ship : yX6_ship.cls ≠ "java/lang/invoke/MethodHandle" ∧ yX6_ship.cls ≠ "java/lang/invoke/VarHandle" ∧ (parseMethodDescriptor yX6_ship.desc).map (fun d => d.parameters.length) = some 2 := ⟨by decide +kernel, by decide +kernel, by decide +kernel⟩
theorem in_X6_ship_X6 : ∀ w ∈ wsX60, w ∈ wsX6_ship := fun w h => List.mem_cons_of_mem _ (List.mem_append_left _ (List.mem_append_left _ (List.mem_append_left _ (List.mem_append_left _ (List.mem_append_right _ h)))))
theorem in_X6_ship_X3 : ∀ w ∈ wsX30, w ∈ wsX6_ship := fun w h => List.mem_cons_of_mem _ (List.mem_append_left _ (List.mem_append_left _ (List.mem_append_left _ (List.mem_append_right _ h))))
theorem in_X6_ship_X4 : ∀ w ∈ wsX40, w ∈ wsX6_ship := fun w h => List.mem_cons_of_mem _ (List.mem_append_left _ (List.mem_append_left _ (List.mem_append_right _ h)))
theorem in_X6_ship_X0 : ∀ w ∈ wsX00, w ∈ wsX6_ship := fun w h => List.mem_cons_of_mem _ (List.mem_append_left _ (List.mem_append_right _ h))
theorem in_X6_ship_X5 : ∀ w ∈ wsX50, w ∈ wsX6_ship := fun w h => List.mem_cons_of_mem _ (List.mem_append_right _ h)
abbrev rm_X6_commonDivisor : Room := { frames := 0, cells := 0, slots := 0, locals := 0 }
theorem hd_X6_commonDivisor : yX6_commonDivisor.cls ≠ "java/lang/invoke/MethodHandle" ∧ yX6_commonDivisor.cls ≠ "java/lang/invoke/VarHandle" ∧ (parseMethodDescriptor yX6_commonDivisor.desc).map (fun d => d.parameters.length) = some 2 := ⟨by decide +kernel, by decide +kernel, by decide +kernel⟩
abbrev rm_X6_lightsInSight : Room := { frames := 1, cells := 0, slots := 0, locals := 26 }
theorem hd_X6_lightsInSight : yX6_lightsInSight.cls ≠ "java/lang/invoke/MethodHandle" ∧ yX6_lightsInSight.cls ≠ "java/lang/invoke/VarHandle" ∧ (parseMethodDescriptor yX6_lightsInSight.desc).map (fun d => d.parameters.length) = some 1 := ⟨by decide +kernel, by decide +kernel, by decide +kernel⟩
theorem in_X6_lightsInSight_X6 : ∀ w ∈ wsX60, w ∈ wsX6_lightsInSight := fun w h => List.mem_cons_of_mem _ (List.mem_append_left _ (List.mem_append_left _ (List.mem_append_left _ (List.mem_append_left _ (List.mem_append_right _ h)))))
theorem in_X6_lightsInSight_X3 : ∀ w ∈ wsX30, w ∈ wsX6_lightsInSight := fun w h => List.mem_cons_of_mem _ (List.mem_append_left _ (List.mem_append_left _ (List.mem_append_left _ (List.mem_append_right _ h))))
theorem in_X6_lightsInSight_X4 : ∀ w ∈ wsX40, w ∈ wsX6_lightsInSight := fun w h => List.mem_cons_of_mem _ (List.mem_append_left _ (List.mem_append_left _ (List.mem_append_right _ h)))
theorem in_X6_lightsInSight_X0 : ∀ w ∈ wsX00, w ∈ wsX6_lightsInSight := fun w h => List.mem_cons_of_mem _ (List.mem_append_left _ (List.mem_append_right _ h))
theorem in_X6_lightsInSight_X5 : ∀ w ∈ wsX50, w ∈ wsX6_lightsInSight := fun w h => List.mem_cons_of_mem _ (List.mem_append_right _ h)
abbrev rm_X6_power : Room := { frames := 0, cells := 0, slots := 0, locals := 0 }
theorem hd_X6_power : yX6_power.cls ≠ "java/lang/invoke/MethodHandle" ∧ yX6_power.cls ≠ "java/lang/invoke/VarHandle" ∧ (parseMethodDescriptor yX6_power.desc).map (fun d => d.parameters.length) = some 2 := ⟨by decide +kernel, by decide +kernel, by decide +kernel⟩
abbrev rm_X6_odds : Room := { frames := 2, cells := 0, slots := 0, locals := 50 }
theorem hd_X6_odds : yX6_odds.cls ≠ "java/lang/invoke/MethodHandle" ∧ yX6_odds.cls ≠ "java/lang/invoke/VarHandle" ∧ (parseMethodDescriptor yX6_odds.desc).map (fun d => d.parameters.length) = some 3 := ⟨by decide +kernel, by decide +kernel, by decide +kernel⟩
theorem in_X6_odds_X6 : ∀ w ∈ wsX60, w ∈ wsX6_odds := fun w h => List.mem_cons_of_mem _ (List.mem_append_left _ (List.mem_append_left _ (List.mem_append_left _ (List.mem_append_left _ (List.mem_append_right _ h)))))
theorem in_X6_odds_X3 : ∀ w ∈ wsX30, w ∈ wsX6_odds := fun w h => List.mem_cons_of_mem _ (List.mem_append_left _ (List.mem_append_left _ (List.mem_append_left _ (List.mem_append_right _ h))))
theorem in_X6_odds_X4 : ∀ w ∈ wsX40, w ∈ wsX6_odds := fun w h => List.mem_cons_of_mem _ (List.mem_append_left _ (List.mem_append_left _ (List.mem_append_right _ h)))
theorem in_X6_odds_X0 : ∀ w ∈ wsX00, w ∈ wsX6_odds := fun w h => List.mem_cons_of_mem _ (List.mem_append_left _ (List.mem_append_right _ h))
theorem in_X6_odds_X5 : ∀ w ∈ wsX50, w ∈ wsX6_odds := fun w h => List.mem_cons_of_mem _ (List.mem_append_right _ h)
abbrev rm_X6_saw : Room := { frames := 2, cells := 0, slots := 0, locals := 42 }
theorem hd_X6_saw : yX6_saw.cls ≠ "java/lang/invoke/MethodHandle" ∧ yX6_saw.cls ≠ "java/lang/invoke/VarHandle" ∧ (parseMethodDescriptor yX6_saw.desc).map (fun d => d.parameters.length) = some 2 := ⟨by decide +kernel, by decide +kernel, by decide +kernel⟩
theorem in_X6_saw_X6 : ∀ w ∈ wsX60, w ∈ wsX6_saw := fun w h => List.mem_cons_of_mem _ (List.mem_append_left _ (List.mem_append_left _ (List.mem_append_right _ h)))
theorem in_X6_saw_X3 : ∀ w ∈ wsX30, w ∈ wsX6_saw := fun w h => List.mem_cons_of_mem _ (List.mem_append_left _ (List.mem_append_right _ h))
theorem in_X6_saw_X4 : ∀ w ∈ wsX40, w ∈ wsX6_saw := fun w h => List.mem_cons_of_mem _ (List.mem_append_right _ h)
abbrev rm_X6_forget : Room := { frames := 0, cells := 0, slots := 0, locals := 0 }
theorem hd_X6_forget : yX6_forget.cls ≠ "java/lang/invoke/MethodHandle" ∧ yX6_forget.cls ≠ "java/lang/invoke/VarHandle" ∧ (parseMethodDescriptor yX6_forget.desc).map (fun d => d.parameters.length) = some 0 := ⟨by decide +kernel, by decide +kernel, by decide +kernel⟩
theorem in_X6_forget_X6 : ∀ w ∈ wsX60, w ∈ wsX6_forget := fun w h => List.mem_cons_of_mem _ (List.mem_append_right _ h)
abbrev rm_X6_fitsSeen : Room := { frames := 2, cells := 0, slots := 0, locals := 44 }
theorem hd_X6_fitsSeen : yX6_fitsSeen.cls ≠ "java/lang/invoke/MethodHandle" ∧ yX6_fitsSeen.cls ≠ "java/lang/invoke/VarHandle" ∧ (parseMethodDescriptor yX6_fitsSeen.desc).map (fun d => d.parameters.length) = some 1 := ⟨by decide +kernel, by decide +kernel, by decide +kernel⟩
theorem in_X6_fitsSeen_X6 : ∀ w ∈ wsX60, w ∈ wsX6_fitsSeen := fun w h => List.mem_cons_of_mem _ (List.mem_append_left _ (List.mem_append_left _ (List.mem_append_left _ (List.mem_append_right _ h))))
theorem in_X6_fitsSeen_X3 : ∀ w ∈ wsX30, w ∈ wsX6_fitsSeen := fun w h => List.mem_cons_of_mem _ (List.mem_append_left _ (List.mem_append_left _ (List.mem_append_right _ h)))
theorem in_X6_fitsSeen_X5 : ∀ w ∈ wsX50, w ∈ wsX6_fitsSeen := fun w h => List.mem_cons_of_mem _ (List.mem_append_left _ (List.mem_append_right _ h))
theorem in_X6_fitsSeen_X4 : ∀ w ∈ wsX40, w ∈ wsX6_fitsSeen := fun w h => List.mem_cons_of_mem _ (List.mem_append_right _ h)
abbrev rm_X6_sureOf : Room := { frames := 3, cells := 0, slots := 0, locals := 66 }
theorem hd_X6_sureOf : yX6_sureOf.cls ≠ "java/lang/invoke/MethodHandle" ∧ yX6_sureOf.cls ≠ "java/lang/invoke/VarHandle" ∧ (parseMethodDescriptor yX6_sureOf.desc).map (fun d => d.parameters.length) = some 1 := ⟨by decide +kernel, by decide +kernel, by decide +kernel⟩
theorem in_X6_sureOf_X6 : ∀ w ∈ wsX60, w ∈ wsX6_sureOf := fun w h => List.mem_cons_of_mem _ (List.mem_append_left _ (List.mem_append_left _ (List.mem_append_left _ (List.mem_append_right _ h))))
theorem in_X6_sureOf_X3 : ∀ w ∈ wsX30, w ∈ wsX6_sureOf := fun w h => List.mem_cons_of_mem _ (List.mem_append_left _ (List.mem_append_left _ (List.mem_append_right _ h)))
theorem in_X6_sureOf_X5 : ∀ w ∈ wsX50, w ∈ wsX6_sureOf := fun w h => List.mem_cons_of_mem _ (List.mem_append_left _ (List.mem_append_right _ h))
theorem in_X6_sureOf_X4 : ∀ w ∈ wsX40, w ∈ wsX6_sureOf := fun w h => List.mem_cons_of_mem _ (List.mem_append_right _ h)
abbrev rm_X6_waysThatFit : Room := { frames := 3, cells := 0, slots := 0, locals := 66 }
theorem hd_X6_waysThatFit : yX6_waysThatFit.cls ≠ "java/lang/invoke/MethodHandle" ∧ yX6_waysThatFit.cls ≠ "java/lang/invoke/VarHandle" ∧ (parseMethodDescriptor yX6_waysThatFit.desc).map (fun d => d.parameters.length) = some 0 := ⟨by decide +kernel, by decide +kernel, by decide +kernel⟩
theorem in_X6_waysThatFit_X6 : ∀ w ∈ wsX60, w ∈ wsX6_waysThatFit := fun w h => List.mem_cons_of_mem _ (List.mem_append_left _ (List.mem_append_left _ (List.mem_append_left _ (List.mem_append_right _ h))))
theorem in_X6_waysThatFit_X3 : ∀ w ∈ wsX30, w ∈ wsX6_waysThatFit := fun w h => List.mem_cons_of_mem _ (List.mem_append_left _ (List.mem_append_left _ (List.mem_append_right _ h)))
theorem in_X6_waysThatFit_X5 : ∀ w ∈ wsX50, w ∈ wsX6_waysThatFit := fun w h => List.mem_cons_of_mem _ (List.mem_append_left _ (List.mem_append_right _ h))
theorem in_X6_waysThatFit_X4 : ∀ w ∈ wsX40, w ∈ wsX6_waysThatFit := fun w h => List.mem_cons_of_mem _ (List.mem_append_right _ h)
abbrev rm_X6_fits : Room := { frames := 4, cells := 0, slots := 0, locals := 90 }
theorem hd_X6_fits : yX6_fits.cls ≠ "java/lang/invoke/MethodHandle" ∧ yX6_fits.cls ≠ "java/lang/invoke/VarHandle" ∧ (parseMethodDescriptor yX6_fits.desc).map (fun d => d.parameters.length) = some 1 := ⟨by decide +kernel, by decide +kernel, by decide +kernel⟩
theorem in_X6_fits_X6 : ∀ w ∈ wsX60, w ∈ wsX6_fits := fun w h => List.mem_cons_of_mem _ (List.mem_append_left _ (List.mem_append_left _ (List.mem_append_left _ (List.mem_append_right _ h))))
theorem in_X6_fits_X3 : ∀ w ∈ wsX30, w ∈ wsX6_fits := fun w h => List.mem_cons_of_mem _ (List.mem_append_left _ (List.mem_append_left _ (List.mem_append_right _ h)))
theorem in_X6_fits_X5 : ∀ w ∈ wsX50, w ∈ wsX6_fits := fun w h => List.mem_cons_of_mem _ (List.mem_append_left _ (List.mem_append_right _ h))
theorem in_X6_fits_X4 : ∀ w ∈ wsX40, w ∈ wsX6_fits := fun w h => List.mem_cons_of_mem _ (List.mem_append_right _ h)
abbrev rm_X6_markOfKeeper : Room := { frames := 1, cells := 0, slots := 0, locals := 21 }
theorem hd_X6_markOfKeeper : yX6_markOfKeeper.cls ≠ "java/lang/invoke/MethodHandle" ∧ yX6_markOfKeeper.cls ≠ "java/lang/invoke/VarHandle" ∧ (parseMethodDescriptor yX6_markOfKeeper.desc).map (fun d => d.parameters.length) = some 1 := ⟨by decide +kernel, by decide +kernel, by decide +kernel⟩
theorem in_X6_markOfKeeper_X6 : ∀ w ∈ wsX60, w ∈ wsX6_markOfKeeper := fun w h => List.mem_cons_of_mem _ (List.mem_append_left _ (List.mem_append_left _ (List.mem_append_right _ h)))
theorem in_X6_markOfKeeper_X3 : ∀ w ∈ wsX30, w ∈ wsX6_markOfKeeper := fun w h => List.mem_cons_of_mem _ (List.mem_append_left _ (List.mem_append_right _ h))
theorem in_X6_markOfKeeper_X4 : ∀ w ∈ wsX40, w ∈ wsX6_markOfKeeper := fun w h => List.mem_cons_of_mem _ (List.mem_append_right _ h)
abbrev rm_X6_markOfPilot : Room := { frames := 2, cells := 0, slots := 0, locals := 45 }
theorem hd_X6_markOfPilot : yX6_markOfPilot.cls ≠ "java/lang/invoke/MethodHandle" ∧ yX6_markOfPilot.cls ≠ "java/lang/invoke/VarHandle" ∧ (parseMethodDescriptor yX6_markOfPilot.desc).map (fun d => d.parameters.length) = some 1 := ⟨by decide +kernel, by decide +kernel, by decide +kernel⟩
theorem in_X6_markOfPilot_X6 : ∀ w ∈ wsX60, w ∈ wsX6_markOfPilot := fun w h => List.mem_cons_of_mem _ (List.mem_append_left _ (List.mem_append_left _ (List.mem_append_left _ (List.mem_append_left _ (List.mem_append_right _ h)))))
theorem in_X6_markOfPilot_X3 : ∀ w ∈ wsX30, w ∈ wsX6_markOfPilot := fun w h => List.mem_cons_of_mem _ (List.mem_append_left _ (List.mem_append_left _ (List.mem_append_left _ (List.mem_append_right _ h))))
theorem in_X6_markOfPilot_X0 : ∀ w ∈ wsX00, w ∈ wsX6_markOfPilot := fun w h => List.mem_cons_of_mem _ (List.mem_append_left _ (List.mem_append_left _ (List.mem_append_right _ h)))
theorem in_X6_markOfPilot_X4 : ∀ w ∈ wsX40, w ∈ wsX6_markOfPilot := fun w h => List.mem_cons_of_mem _ (List.mem_append_left _ (List.mem_append_right _ h))
theorem in_X6_markOfPilot_X5 : ∀ w ∈ wsX50, w ∈ wsX6_markOfPilot := fun w h => List.mem_cons_of_mem _ (List.mem_append_right _ h)
abbrev rm_X6_markOfCat : Room := { frames := 3, cells := 0, slots := 0, locals := 66 }
theorem hd_X6_markOfCat : yX6_markOfCat.cls ≠ "java/lang/invoke/MethodHandle" ∧ yX6_markOfCat.cls ≠ "java/lang/invoke/VarHandle" ∧ (parseMethodDescriptor yX6_markOfCat.desc).map (fun d => d.parameters.length) = some 1 := ⟨by decide +kernel, by decide +kernel, by decide +kernel⟩
theorem in_X6_markOfCat_X6 : ∀ w ∈ wsX60, w ∈ wsX6_markOfCat := fun w h => List.mem_cons_of_mem _ (List.mem_append_left _ (List.mem_append_left _ (List.mem_append_left _ (List.mem_append_left _ (List.mem_append_right _ h)))))
theorem in_X6_markOfCat_X3 : ∀ w ∈ wsX30, w ∈ wsX6_markOfCat := fun w h => List.mem_cons_of_mem _ (List.mem_append_left _ (List.mem_append_left _ (List.mem_append_left _ (List.mem_append_right _ h))))
theorem in_X6_markOfCat_X0 : ∀ w ∈ wsX00, w ∈ wsX6_markOfCat := fun w h => List.mem_cons_of_mem _ (List.mem_append_left _ (List.mem_append_left _ (List.mem_append_right _ h)))
theorem in_X6_markOfCat_X4 : ∀ w ∈ wsX40, w ∈ wsX6_markOfCat := fun w h => List.mem_cons_of_mem _ (List.mem_append_left _ (List.mem_append_right _ h))
theorem in_X6_markOfCat_X5 : ∀ w ∈ wsX50, w ∈ wsX6_markOfCat := fun w h => List.mem_cons_of_mem _ (List.mem_append_right _ h)
abbrev rm_X6_markOfSleeper : Room := { frames := 3, cells := 0, slots := 0, locals := 66 }
theorem hd_X6_markOfSleeper : yX6_markOfSleeper.cls ≠ "java/lang/invoke/MethodHandle" ∧ yX6_markOfSleeper.cls ≠ "java/lang/invoke/VarHandle" ∧ (parseMethodDescriptor yX6_markOfSleeper.desc).map (fun d => d.parameters.length) = some 1 := ⟨by decide +kernel, by decide +kernel, by decide +kernel⟩
theorem in_X6_markOfSleeper_X6 : ∀ w ∈ wsX60, w ∈ wsX6_markOfSleeper := fun w h => List.mem_cons_of_mem _ (List.mem_append_left _ (List.mem_append_left _ (List.mem_append_left _ (List.mem_append_left _ (List.mem_append_right _ h)))))
theorem in_X6_markOfSleeper_X3 : ∀ w ∈ wsX30, w ∈ wsX6_markOfSleeper := fun w h => List.mem_cons_of_mem _ (List.mem_append_left _ (List.mem_append_left _ (List.mem_append_left _ (List.mem_append_right _ h))))
theorem in_X6_markOfSleeper_X4 : ∀ w ∈ wsX40, w ∈ wsX6_markOfSleeper := fun w h => List.mem_cons_of_mem _ (List.mem_append_left _ (List.mem_append_left _ (List.mem_append_right _ h)))
theorem in_X6_markOfSleeper_X0 : ∀ w ∈ wsX00, w ∈ wsX6_markOfSleeper := fun w h => List.mem_cons_of_mem _ (List.mem_append_left _ (List.mem_append_right _ h))
theorem in_X6_markOfSleeper_X5 : ∀ w ∈ wsX50, w ∈ wsX6_markOfSleeper := fun w h => List.mem_cons_of_mem _ (List.mem_append_right _ h)
abbrev rm_X6_markOfHorn : Room := { frames := 4, cells := 0, slots := 0, locals := 87 }
theorem hd_X6_markOfHorn : yX6_markOfHorn.cls ≠ "java/lang/invoke/MethodHandle" ∧ yX6_markOfHorn.cls ≠ "java/lang/invoke/VarHandle" ∧ (parseMethodDescriptor yX6_markOfHorn.desc).map (fun d => d.parameters.length) = some 1 := ⟨by decide +kernel, by decide +kernel, by decide +kernel⟩
theorem in_X6_markOfHorn_X6 : ∀ w ∈ wsX60, w ∈ wsX6_markOfHorn := fun w h => List.mem_cons_of_mem _ (List.mem_append_left _ (List.mem_append_left _ (List.mem_append_left _ (List.mem_append_left _ (List.mem_append_right _ h)))))
theorem in_X6_markOfHorn_X3 : ∀ w ∈ wsX30, w ∈ wsX6_markOfHorn := fun w h => List.mem_cons_of_mem _ (List.mem_append_left _ (List.mem_append_left _ (List.mem_append_left _ (List.mem_append_right _ h))))
theorem in_X6_markOfHorn_X4 : ∀ w ∈ wsX40, w ∈ wsX6_markOfHorn := fun w h => List.mem_cons_of_mem _ (List.mem_append_left _ (List.mem_append_left _ (List.mem_append_right _ h)))
theorem in_X6_markOfHorn_X0 : ∀ w ∈ wsX00, w ∈ wsX6_markOfHorn := fun w h => List.mem_cons_of_mem _ (List.mem_append_left _ (List.mem_append_right _ h))
theorem in_X6_markOfHorn_X5 : ∀ w ∈ wsX50, w ∈ wsX6_markOfHorn := fun w h => List.mem_cons_of_mem _ (List.mem_append_right _ h)
abbrev rm_X6_markOfWife : Room := { frames := 2, cells := 0, slots := 0, locals := 42 }
theorem hd_X6_markOfWife : yX6_markOfWife.cls ≠ "java/lang/invoke/MethodHandle" ∧ yX6_markOfWife.cls ≠ "java/lang/invoke/VarHandle" ∧ (parseMethodDescriptor yX6_markOfWife.desc).map (fun d => d.parameters.length) = some 1 := ⟨by decide +kernel, by decide +kernel, by decide +kernel⟩
theorem in_X6_markOfWife_X6 : ∀ w ∈ wsX60, w ∈ wsX6_markOfWife := fun w h => List.mem_cons_of_mem _ (List.mem_append_left _ (List.mem_append_left _ (List.mem_append_left _ (List.mem_append_right _ h))))
theorem in_X6_markOfWife_X0 : ∀ w ∈ wsX00, w ∈ wsX6_markOfWife := fun w h => List.mem_cons_of_mem _ (List.mem_append_left _ (List.mem_append_left _ (List.mem_append_right _ h)))
theorem in_X6_markOfWife_X3 : ∀ w ∈ wsX30, w ∈ wsX6_markOfWife := fun w h => List.mem_cons_of_mem _ (List.mem_append_left _ (List.mem_append_right _ h))
theorem in_X6_markOfWife_X4 : ∀ w ∈ wsX40, w ∈ wsX6_markOfWife := fun w h => List.mem_cons_of_mem _ (List.mem_append_right _ h)
abbrev rm_X6_mark : Room := { frames := 5, cells := 0, slots := 0, locals := 108 }
theorem hd_X6_mark : yX6_mark.cls ≠ "java/lang/invoke/MethodHandle" ∧ yX6_mark.cls ≠ "java/lang/invoke/VarHandle" ∧ (parseMethodDescriptor yX6_mark.desc).map (fun d => d.parameters.length) = some 2 := ⟨by decide +kernel, by decide +kernel, by decide +kernel⟩
theorem in_X6_mark_X6 : ∀ w ∈ wsX60, w ∈ wsX6_mark := fun w h => List.mem_cons_of_mem _ (List.mem_append_left _ (List.mem_append_left _ (List.mem_append_left _ (List.mem_append_left _ (List.mem_append_right _ h)))))
theorem in_X6_mark_X3 : ∀ w ∈ wsX30, w ∈ wsX6_mark := fun w h => List.mem_cons_of_mem _ (List.mem_append_left _ (List.mem_append_left _ (List.mem_append_left _ (List.mem_append_right _ h))))
theorem in_X6_mark_X4 : ∀ w ∈ wsX40, w ∈ wsX6_mark := fun w h => List.mem_cons_of_mem _ (List.mem_append_left _ (List.mem_append_left _ (List.mem_append_right _ h)))
theorem in_X6_mark_X0 : ∀ w ∈ wsX00, w ∈ wsX6_mark := fun w h => List.mem_cons_of_mem _ (List.mem_append_left _ (List.mem_append_right _ h))
theorem in_X6_mark_X5 : ∀ w ∈ wsX50, w ∈ wsX6_mark := fun w h => List.mem_cons_of_mem _ (List.mem_append_right _ h)
abbrev rm_X6_imageOf : Room := { frames := 0, cells := 0, slots := 0, locals := 0 }
theorem hd_X6_imageOf : yX6_imageOf.cls ≠ "java/lang/invoke/MethodHandle" ∧ yX6_imageOf.cls ≠ "java/lang/invoke/VarHandle" ∧ (parseMethodDescriptor yX6_imageOf.desc).map (fun d => d.parameters.length) = some 1 := ⟨by decide +kernel, by decide +kernel, by decide +kernel⟩
theorem in_X6_imageOf_X6 : ∀ w ∈ wsX60, w ∈ wsX6_imageOf := fun w h => List.mem_cons_of_mem _ (List.mem_append_right _ h)
abbrev rm_X6_keep : Room := { frames := 2, cells := 0, slots := 0, locals := 47 }
theorem hd_X6_keep : yX6_keep.cls ≠ "java/lang/invoke/MethodHandle" ∧ yX6_keep.cls ≠ "java/lang/invoke/VarHandle" ∧ (parseMethodDescriptor yX6_keep.desc).map (fun d => d.parameters.length) = some 1 := ⟨by decide +kernel, by decide +kernel, by decide +kernel⟩
theorem in_X6_keep_X6 : ∀ w ∈ wsX60, w ∈ wsX6_keep := fun w h => List.mem_cons_of_mem _ (List.mem_append_left _ (List.mem_append_right _ h))
theorem in_X6_keep_X0 : ∀ w ∈ wsX00, w ∈ wsX6_keep := fun w h => List.mem_cons_of_mem _ (List.mem_append_right _ h)
abbrev rm_X6_back : Room := { frames := 2, cells := 0, slots := 0, locals := 47 }
theorem hd_X6_back : yX6_back.cls ≠ "java/lang/invoke/MethodHandle" ∧ yX6_back.cls ≠ "java/lang/invoke/VarHandle" ∧ (parseMethodDescriptor yX6_back.desc).map (fun d => d.parameters.length) = some 1 := ⟨by decide +kernel, by decide +kernel, by decide +kernel⟩
theorem in_X6_back_X0 : ∀ w ∈ wsX00, w ∈ wsX6_back := fun w h => List.mem_cons_of_mem _ (List.mem_append_left _ (List.mem_append_right _ h))
theorem in_X6_back_X6 : ∀ w ∈ wsX60, w ∈ wsX6_back := fun w h => List.mem_cons_of_mem _ (List.mem_append_right _ h)
abbrev rm_X6_count : Room := { frames := 0, cells := 0, slots := 0, locals := 0 }
theorem hd_X6_count : yX6_count.cls ≠ "java/lang/invoke/MethodHandle" ∧ yX6_count.cls ≠ "java/lang/invoke/VarHandle" ∧ (parseMethodDescriptor yX6_count.desc).map (fun d => d.parameters.length) = some 1 := ⟨by decide +kernel, by decide +kernel, by decide +kernel⟩
theorem in_X6_count_X6 : ∀ w ∈ wsX60, w ∈ wsX6_count := fun w h => List.mem_cons_of_mem _ (List.mem_append_left _ (List.mem_append_left _ (List.mem_append_left _ (List.mem_append_left _ (List.mem_append_right _ h)))))
theorem in_X6_count_X3 : ∀ w ∈ wsX30, w ∈ wsX6_count := fun w h => List.mem_cons_of_mem _ (List.mem_append_left _ (List.mem_append_left _ (List.mem_append_left _ (List.mem_append_right _ h))))
theorem in_X6_count_X4 : ∀ w ∈ wsX40, w ∈ wsX6_count := fun w h => List.mem_cons_of_mem _ (List.mem_append_left _ (List.mem_append_left _ (List.mem_append_right _ h)))
theorem in_X6_count_X0 : ∀ w ∈ wsX00, w ∈ wsX6_count := fun w h => List.mem_cons_of_mem _ (List.mem_append_left _ (List.mem_append_right _ h))
theorem in_X6_count_X1 : ∀ w ∈ wsX10, w ∈ wsX6_count := fun w h => List.mem_cons_of_mem _ (List.mem_append_right _ h)
abbrev rm_X6_trace : Room := { frames := 0, cells := 0, slots := 0, locals := 0 }
theorem hd_X6_trace : yX6_trace.cls ≠ "java/lang/invoke/MethodHandle" ∧ yX6_trace.cls ≠ "java/lang/invoke/VarHandle" ∧ (parseMethodDescriptor yX6_trace.desc).map (fun d => d.parameters.length) = some 0 := ⟨by decide +kernel, by decide +kernel, by decide +kernel⟩
theorem in_X6_trace_X6 : ∀ w ∈ wsX60, w ∈ wsX6_trace := fun w h => List.mem_cons_of_mem _ (List.mem_append_right _ h)
abbrev rm_X7_in : Room := { frames := 0, cells := 0, slots := 0, locals := 0 }
theorem hd_X7_in : yX7_in.cls ≠ "java/lang/invoke/MethodHandle" ∧ yX7_in.cls ≠ "java/lang/invoke/VarHandle" ∧ (parseMethodDescriptor yX7_in.desc).map (fun d => d.parameters.length) = some 3 := ⟨by decide +kernel, by decide +kernel, by decide +kernel⟩
abbrev rm_X7_has : Room := { frames := 0, cells := 0, slots := 0, locals := 0 }
theorem hd_X7_has : yX7_has.cls ≠ "java/lang/invoke/MethodHandle" ∧ yX7_has.cls ≠ "java/lang/invoke/VarHandle" ∧ (parseMethodDescriptor yX7_has.desc).map (fun d => d.parameters.length) = some 2 := ⟨by decide +kernel, by decide +kernel, by decide +kernel⟩
abbrev rm_X7_bits : Room := { frames := 0, cells := 0, slots := 0, locals := 0 }
theorem hd_X7_bits : yX7_bits.cls ≠ "java/lang/invoke/MethodHandle" ∧ yX7_bits.cls ≠ "java/lang/invoke/VarHandle" ∧ (parseMethodDescriptor yX7_bits.desc).map (fun d => d.parameters.length) = some 1 := ⟨by decide +kernel, by decide +kernel, by decide +kernel⟩
abbrev rm_X7_isOne : Room := { frames := 1, cells := 0, slots := 0, locals := 22 }
theorem hd_X7_isOne : yX7_isOne.cls ≠ "java/lang/invoke/MethodHandle" ∧ yX7_isOne.cls ≠ "java/lang/invoke/VarHandle" ∧ (parseMethodDescriptor yX7_isOne.desc).map (fun d => d.parameters.length) = some 1 := ⟨by decide +kernel, by decide +kernel, by decide +kernel⟩
theorem in_X7_isOne_X7 : ∀ w ∈ wsX70, w ∈ wsX7_isOne := fun w h => List.mem_cons_of_mem _ (List.mem_append_right _ h)
abbrev rm_X7_type : Room := { frames := 1, cells := 0, slots := 0, locals := 22 }
theorem hd_X7_type : yX7_type.cls ≠ "java/lang/invoke/MethodHandle" ∧ yX7_type.cls ≠ "java/lang/invoke/VarHandle" ∧ (parseMethodDescriptor yX7_type.desc).map (fun d => d.parameters.length) = some 1 := ⟨by decide +kernel, by decide +kernel, by decide +kernel⟩
theorem in_X7_type_X7 : ∀ w ∈ wsX70, w ∈ wsX7_type := fun w h => List.mem_cons_of_mem _ (List.mem_append_right _ h)
abbrev rm_X7_clear : Room := { frames := 0, cells := 0, slots := 0, locals := 0 }
theorem hd_X7_clear : yX7_clear.cls ≠ "java/lang/invoke/MethodHandle" ∧ yX7_clear.cls ≠ "java/lang/invoke/VarHandle" ∧ (parseMethodDescriptor yX7_clear.desc).map (fun d => d.parameters.length) = some 0 := ⟨by decide +kernel, by decide +kernel, by decide +kernel⟩
theorem in_X7_clear_X7 : ∀ w ∈ wsX70, w ∈ wsX7_clear := fun w h => List.mem_cons_of_mem _ (List.mem_append_right _ h)
abbrev rm_X7_letterAt : Room := { frames := 0, cells := 0, slots := 0, locals := 0 }
theorem hd_X7_letterAt : yX7_letterAt.cls ≠ "java/lang/invoke/MethodHandle" ∧ yX7_letterAt.cls ≠ "java/lang/invoke/VarHandle" ∧ (parseMethodDescriptor yX7_letterAt.desc).map (fun d => d.parameters.length) = some 1 := ⟨by decide +kernel, by decide +kernel, by decide +kernel⟩
theorem in_X7_letterAt_X7 : ∀ w ∈ wsX70, w ∈ wsX7_letterAt := fun w h => List.mem_cons_of_mem _ (List.mem_append_right _ h)
abbrev rm_X7_isFigure : Room := { frames := 1, cells := 0, slots := 0, locals := 22 }
theorem hd_X7_isFigure : yX7_isFigure.cls ≠ "java/lang/invoke/MethodHandle" ∧ yX7_isFigure.cls ≠ "java/lang/invoke/VarHandle" ∧ (parseMethodDescriptor yX7_isFigure.desc).map (fun d => d.parameters.length) = some 1 := ⟨by decide +kernel, by decide +kernel, by decide +kernel⟩
abbrev rm_X7_isLetter : Room := { frames := 1, cells := 0, slots := 0, locals := 22 }
theorem hd_X7_isLetter : yX7_isLetter.cls ≠ "java/lang/invoke/MethodHandle" ∧ yX7_isLetter.cls ≠ "java/lang/invoke/VarHandle" ∧ (parseMethodDescriptor yX7_isLetter.desc).map (fun d => d.parameters.length) = some 1 := ⟨by decide +kernel, by decide +kernel, by decide +kernel⟩
abbrev rm_X7_next : Room := { frames := 2, cells := 0, slots := 0, locals := 42 }
theorem hd_X7_next : yX7_next.cls ≠ "java/lang/invoke/MethodHandle" ∧ yX7_next.cls ≠ "java/lang/invoke/VarHandle" ∧ (parseMethodDescriptor yX7_next.desc).map (fun d => d.parameters.length) = some 0 := ⟨by decide +kernel, by decide +kernel, by decide +kernel⟩
theorem in_X7_next_X7 : ∀ w ∈ wsX70, w ∈ wsX7_next := fun w h => List.mem_cons_of_mem _ (List.mem_append_right _ h)
abbrev rm_X7_takes : Room := { frames := 3, cells := 0, slots := 0, locals := 63 }
theorem hd_X7_takes : yX7_takes.cls ≠ "java/lang/invoke/MethodHandle" ∧ yX7_takes.cls ≠ "java/lang/invoke/VarHandle" ∧ (parseMethodDescriptor yX7_takes.desc).map (fun d => d.parameters.length) = some 3 := ⟨by decide +kernel, by decide +kernel, by decide +kernel⟩
theorem in_X7_takes_X7 : ∀ w ∈ wsX70, w ∈ wsX7_takes := fun w h => List.mem_cons_of_mem _ (List.mem_append_right _ h)
abbrev rm_X7_readKeeper : Room := { frames := 4, cells := 0, slots := 0, locals := 88 }
theorem hd_X7_readKeeper : yX7_readKeeper.cls ≠ "java/lang/invoke/MethodHandle" ∧ yX7_readKeeper.cls ≠ "java/lang/invoke/VarHandle" ∧ (parseMethodDescriptor yX7_readKeeper.desc).map (fun d => d.parameters.length) = some 0 := ⟨by decide +kernel, by decide +kernel, by decide +kernel⟩
theorem in_X7_readKeeper_X7 : ∀ w ∈ wsX70, w ∈ wsX7_readKeeper := fun w h => List.mem_cons_of_mem _ (List.mem_append_right _ h)
abbrev rm_X7_readHate : Room := { frames := 4, cells := 0, slots := 0, locals := 88 }
theorem hd_X7_readHate : yX7_readHate.cls ≠ "java/lang/invoke/MethodHandle" ∧ yX7_readHate.cls ≠ "java/lang/invoke/VarHandle" ∧ (parseMethodDescriptor yX7_readHate.desc).map (fun d => d.parameters.length) = some 0 := ⟨by decide +kernel, by decide +kernel, by decide +kernel⟩
theorem in_X7_readHate_X7 : ∀ w ∈ wsX70, w ∈ wsX7_readHate := fun w h => List.mem_cons_of_mem _ (List.mem_append_right _ h)
abbrev rm_X7_mayBegin : Room := { frames := 0, cells := 0, slots := 0, locals := 0 }
theorem hd_X7_mayBegin : yX7_mayBegin.cls ≠ "java/lang/invoke/MethodHandle" ∧ yX7_mayBegin.cls ≠ "java/lang/invoke/VarHandle" ∧ (parseMethodDescriptor yX7_mayBegin.desc).map (fun d => d.parameters.length) = some 1 := ⟨by decide +kernel, by decide +kernel, by decide +kernel⟩
theorem in_X7_mayBegin_X7 : ∀ w ∈ wsX70, w ∈ wsX7_mayBegin := fun w h => List.mem_cons_of_mem _ (List.mem_append_right _ h)
abbrev rm_X7_readItem : Room := { frames := 5, cells := 0, slots := 0, locals := 110 }
theorem hd_X7_readItem : yX7_readItem.cls ≠ "java/lang/invoke/MethodHandle" ∧ yX7_readItem.cls ≠ "java/lang/invoke/VarHandle" ∧ (parseMethodDescriptor yX7_readItem.desc).map (fun d => d.parameters.length) = some 0 := ⟨by decide +kernel, by decide +kernel, by decide +kernel⟩
theorem in_X7_readItem_X7 : ∀ w ∈ wsX70, w ∈ wsX7_readItem := fun w h => List.mem_cons_of_mem _ (List.mem_append_right _ h)
abbrev rm_X7_settles : Room := { frames := 0, cells := 0, slots := 0, locals := 0 }
theorem hd_X7_settles : yX7_settles.cls ≠ "java/lang/invoke/MethodHandle" ∧ yX7_settles.cls ≠ "java/lang/invoke/VarHandle" ∧ (parseMethodDescriptor yX7_settles.desc).map (fun d => d.parameters.length) = some 0 := ⟨by decide +kernel, by decide +kernel, by decide +kernel⟩
theorem in_X7_settles_X7 : ∀ w ∈ wsX70, w ∈ wsX7_settles := fun w h => List.mem_cons_of_mem _ (List.mem_append_right _ h)
abbrev rm_X7_coast : Room := { frames := 6, cells := 0, slots := 0, locals := 131 }
theorem hd_X7_coast : yX7_coast.cls ≠ "java/lang/invoke/MethodHandle" ∧ yX7_coast.cls ≠ "java/lang/invoke/VarHandle" ∧ (parseMethodDescriptor yX7_coast.desc).map (fun d => d.parameters.length) = some 0 := ⟨by decide +kernel, by decide +kernel, by decide +kernel⟩
theorem in_X7_coast_X7 : ∀ w ∈ wsX70, w ∈ wsX7_coast := fun w h => List.mem_cons_of_mem _ (List.mem_append_right _ h)
abbrev rm_X7_asItIs : Room := { frames := 0, cells := 0, slots := 0, locals := 0 }
theorem hd_X7_asItIs : yX7_asItIs.cls ≠ "java/lang/invoke/MethodHandle" ∧ yX7_asItIs.cls ≠ "java/lang/invoke/VarHandle" ∧ (parseMethodDescriptor yX7_asItIs.desc).map (fun d => d.parameters.length) = some 0 := ⟨by decide +kernel, by decide +kernel, by decide +kernel⟩
theorem in_X7_asItIs_X7 : ∀ w ∈ wsX70, w ∈ wsX7_asItIs := fun w h => List.mem_cons_of_mem _ (List.mem_append_right _ h)
abbrev rm_X7_rockOf : Room := { frames := 0, cells := 0, slots := 0, locals := 0 }
theorem hd_X7_rockOf : yX7_rockOf.cls ≠ "java/lang/invoke/MethodHandle" ∧ yX7_rockOf.cls ≠ "java/lang/invoke/VarHandle" ∧ (parseMethodDescriptor yX7_rockOf.desc).map (fun d => d.parameters.length) = some 2 := ⟨by decide +kernel, by decide +kernel, by decide +kernel⟩
abbrev rm_X7_driftOf : Room := { frames := 1, cells := 0, slots := 0, locals := 23 }
theorem hd_X7_driftOf : yX7_driftOf.cls ≠ "java/lang/invoke/MethodHandle" ∧ yX7_driftOf.cls ≠ "java/lang/invoke/VarHandle" ∧ (parseMethodDescriptor yX7_driftOf.desc).map (fun d => d.parameters.length) = some 1 := ⟨by decide +kernel, by decide +kernel, by decide +kernel⟩
theorem in_X7_driftOf_X7 : ∀ w ∈ wsX70, w ∈ wsX7_driftOf := fun w h => List.mem_cons_of_mem _ (List.mem_append_right _ h)
abbrev rm_X7_likesOf : Room := { frames := 0, cells := 0, slots := 0, locals := 0 }
theorem hd_X7_likesOf : yX7_likesOf.cls ≠ "java/lang/invoke/MethodHandle" ∧ yX7_likesOf.cls ≠ "java/lang/invoke/VarHandle" ∧ (parseMethodDescriptor yX7_likesOf.desc).map (fun d => d.parameters.length) = some 1 := ⟨by decide +kernel, by decide +kernel, by decide +kernel⟩
theorem in_X7_likesOf_X7 : ∀ w ∈ wsX70, w ∈ wsX7_likesOf := fun w h => List.mem_cons_of_mem _ (List.mem_append_right _ h)
abbrev rm_X7_isChange : Room := { frames := 1, cells := 0, slots := 0, locals := 22 }
theorem hd_X7_isChange : yX7_isChange.cls ≠ "java/lang/invoke/MethodHandle" ∧ yX7_isChange.cls ≠ "java/lang/invoke/VarHandle" ∧ (parseMethodDescriptor yX7_isChange.desc).map (fun d => d.parameters.length) = some 1 := ⟨by decide +kernel, by decide +kernel, by decide +kernel⟩
theorem in_X7_isChange_X7 : ∀ w ∈ wsX70, w ∈ wsX7_isChange := fun w h => List.mem_cons_of_mem _ (List.mem_append_right _ h)
abbrev rm_X7_mayChange : Room := { frames := 1, cells := 0, slots := 0, locals := 21 }
theorem hd_X7_mayChange : yX7_mayChange.cls ≠ "java/lang/invoke/MethodHandle" ∧ yX7_mayChange.cls ≠ "java/lang/invoke/VarHandle" ∧ (parseMethodDescriptor yX7_mayChange.desc).map (fun d => d.parameters.length) = some 2 := ⟨by decide +kernel, by decide +kernel, by decide +kernel⟩
theorem in_X7_mayChange_X7 : ∀ w ∈ wsX70, w ∈ wsX7_mayChange := fun w h => List.mem_cons_of_mem _ (List.mem_append_right _ h)
abbrev rm_X7_changes : Room := { frames := 1, cells := 0, slots := 0, locals := 21 }
theorem hd_X7_changes : yX7_changes.cls ≠ "java/lang/invoke/MethodHandle" ∧ yX7_changes.cls ≠ "java/lang/invoke/VarHandle" ∧ (parseMethodDescriptor yX7_changes.desc).map (fun d => d.parameters.length) = some 2 := ⟨by decide +kernel, by decide +kernel, by decide +kernel⟩
theorem in_X7_changes_X7 : ∀ w ∈ wsX70, w ∈ wsX7_changes := fun w h => List.mem_cons_of_mem _ (List.mem_append_right _ h)
abbrev rm_X7_keeper : Room := { frames := 2, cells := 0, slots := 0, locals := 45 }
theorem hd_X7_keeper : yX7_keeper.cls ≠ "java/lang/invoke/MethodHandle" ∧ yX7_keeper.cls ≠ "java/lang/invoke/VarHandle" ∧ (parseMethodDescriptor yX7_keeper.desc).map (fun d => d.parameters.length) = some 2 := ⟨by decide +kernel, by decide +kernel, by decide +kernel⟩
theorem in_X7_keeper_X7 : ∀ w ∈ wsX70, w ∈ wsX7_keeper := fun w h => List.mem_cons_of_mem _ (List.mem_append_right _ h)
abbrev rm_X7_rock : Room := { frames := 2, cells := 0, slots := 0, locals := 43 }
theorem hd_X7_rock : yX7_rock.cls ≠ "java/lang/invoke/MethodHandle" ∧ yX7_rock.cls ≠ "java/lang/invoke/VarHandle" ∧ (parseMethodDescriptor yX7_rock.desc).map (fun d => d.parameters.length) = some 1 := ⟨by decide +kernel, by decide +kernel, by decide +kernel⟩
theorem in_X7_rock_X7 : ∀ w ∈ wsX70, w ∈ wsX7_rock := fun w h => List.mem_cons_of_mem _ (List.mem_append_right _ h)
abbrev rm_X7_remembers : Room := { frames := 0, cells := 0, slots := 0, locals := 0 }
theorem hd_X7_remembers : yX7_remembers.cls ≠ "java/lang/invoke/MethodHandle" ∧ yX7_remembers.cls ≠ "java/lang/invoke/VarHandle" ∧ (parseMethodDescriptor yX7_remembers.desc).map (fun d => d.parameters.length) = some 0 := ⟨by decide +kernel, by decide +kernel, by decide +kernel⟩
theorem in_X7_remembers_X7 : ∀ w ∈ wsX70, w ∈ wsX7_remembers := fun w h => List.mem_cons_of_mem _ (List.mem_append_right _ h)
abbrev rm_X7_moon : Room := { frames := 2, cells := 0, slots := 0, locals := 45 }
theorem hd_X7_moon : yX7_moon.cls ≠ "java/lang/invoke/MethodHandle" ∧ yX7_moon.cls ≠ "java/lang/invoke/VarHandle" ∧ (parseMethodDescriptor yX7_moon.desc).map (fun d => d.parameters.length) = some 1 := ⟨by decide +kernel, by decide +kernel, by decide +kernel⟩
theorem in_X7_moon_X7 : ∀ w ∈ wsX70, w ∈ wsX7_moon := fun w h => List.mem_cons_of_mem _ (List.mem_append_right _ h)
abbrev rm_X7_puts : Room := { frames := 2, cells := 0, slots := 0, locals := 43 }
theorem hd_X7_puts : yX7_puts.cls ≠ "java/lang/invoke/MethodHandle" ∧ yX7_puts.cls ≠ "java/lang/invoke/VarHandle" ∧ (parseMethodDescriptor yX7_puts.desc).map (fun d => d.parameters.length) = some 2 := ⟨by decide +kernel, by decide +kernel, by decide +kernel⟩
theorem in_X7_puts_X7 : ∀ w ∈ wsX70, w ∈ wsX7_puts := fun w h => List.mem_cons_of_mem _ (List.mem_append_right _ h)
abbrev rm_X7_undo : Room := { frames := 0, cells := 0, slots := 0, locals := 0 }
theorem hd_X7_undo : yX7_undo.cls ≠ "java/lang/invoke/MethodHandle" ∧ yX7_undo.cls ≠ "java/lang/invoke/VarHandle" ∧ (parseMethodDescriptor yX7_undo.desc).map (fun d => d.parameters.length) = some 0 := ⟨by decide +kernel, by decide +kernel, by decide +kernel⟩
theorem in_X7_undo_X7 : ∀ w ∈ wsX70, w ∈ wsX7_undo := fun w h => List.mem_cons_of_mem _ (List.mem_append_right _ h)
abbrev rm_X7_calm : Room := { frames := 2, cells := 0, slots := 0, locals := 45 }
theorem hd_X7_calm : yX7_calm.cls ≠ "java/lang/invoke/MethodHandle" ∧ yX7_calm.cls ≠ "java/lang/invoke/VarHandle" ∧ (parseMethodDescriptor yX7_calm.desc).map (fun d => d.parameters.length) = some 0 := ⟨by decide +kernel, by decide +kernel, by decide +kernel⟩
theorem in_X7_calm_X7 : ∀ w ∈ wsX70, w ∈ wsX7_calm := fun w h => List.mem_cons_of_mem _ (List.mem_append_right _ h)
abbrev rm_X7_now : Room := { frames := 3, cells := 0, slots := 0, locals := 70 }
theorem hd_X7_now : yX7_now.cls ≠ "java/lang/invoke/MethodHandle" ∧ yX7_now.cls ≠ "java/lang/invoke/VarHandle" ∧ (parseMethodDescriptor yX7_now.desc).map (fun d => d.parameters.length) = some 1 := ⟨by decide +kernel, by decide +kernel, by decide +kernel⟩
theorem in_X7_now_X7 : ∀ w ∈ wsX70, w ∈ wsX7_now := fun w h => List.mem_cons_of_mem _ (List.mem_append_right _ h)
abbrev rm_X7_wayOf : Room := { frames := 0, cells := 0, slots := 0, locals := 0 }
theorem hd_X7_wayOf : yX7_wayOf.cls ≠ "java/lang/invoke/MethodHandle" ∧ yX7_wayOf.cls ≠ "java/lang/invoke/VarHandle" ∧ (parseMethodDescriptor yX7_wayOf.desc).map (fun d => d.parameters.length) = some 1 := ⟨by decide +kernel, by decide +kernel, by decide +kernel⟩
theorem in_X7_wayOf_X7 : ∀ w ∈ wsX70, w ∈ wsX7_wayOf := fun w h => List.mem_cons_of_mem _ (List.mem_append_right _ h)
abbrev rm_X7_isWay : Room := { frames := 1, cells := 0, slots := 0, locals := 21 }
theorem hd_X7_isWay : yX7_isWay.cls ≠ "java/lang/invoke/MethodHandle" ∧ yX7_isWay.cls ≠ "java/lang/invoke/VarHandle" ∧ (parseMethodDescriptor yX7_isWay.desc).map (fun d => d.parameters.length) = some 1 := ⟨by decide +kernel, by decide +kernel, by decide +kernel⟩
theorem in_X7_isWay_X7 : ∀ w ∈ wsX70, w ∈ wsX7_isWay := fun w h => List.mem_cons_of_mem _ (List.mem_append_right _ h)
abbrev rm_X7_isSafe : Room := { frames := 1, cells := 0, slots := 0, locals := 24 }
theorem hd_X7_isSafe : yX7_isSafe.cls ≠ "java/lang/invoke/MethodHandle" ∧ yX7_isSafe.cls ≠ "java/lang/invoke/VarHandle" ∧ (parseMethodDescriptor yX7_isSafe.desc).map (fun d => d.parameters.length) = some 1 := ⟨by decide +kernel, by decide +kernel, by decide +kernel⟩
theorem in_X7_isSafe_X7 : ∀ w ∈ wsX70, w ∈ wsX7_isSafe := fun w h => List.mem_cons_of_mem _ (List.mem_append_right _ h)
abbrev rm_X7_findFar : Room := { frames := 2, cells := 0, slots := 0, locals := 47 }
theorem hd_X7_findFar : yX7_findFar.cls ≠ "java/lang/invoke/MethodHandle" ∧ yX7_findFar.cls ≠ "java/lang/invoke/VarHandle" ∧ (parseMethodDescriptor yX7_findFar.desc).map (fun d => d.parameters.length) = some 2 := ⟨by decide +kernel, by decide +kernel, by decide +kernel⟩
theorem in_X7_findFar_X7 : ∀ w ∈ wsX70, w ∈ wsX7_findFar := fun w h => List.mem_cons_of_mem _ (List.mem_append_right _ h)
abbrev rm_X7_areHome : Room := { frames := 0, cells := 0, slots := 0, locals := 0 }
theorem hd_X7_areHome : yX7_areHome.cls ≠ "java/lang/invoke/MethodHandle" ∧ yX7_areHome.cls ≠ "java/lang/invoke/VarHandle" ∧ (parseMethodDescriptor yX7_areHome.desc).map (fun d => d.parameters.length) = some 0 := ⟨by decide +kernel, by decide +kernel, by decide +kernel⟩
theorem in_X7_areHome_X7 : ∀ w ∈ wsX70, w ∈ wsX7_areHome := fun w h => List.mem_cons_of_mem _ (List.mem_append_right _ h)
abbrev rm_X7_homeward : Room := { frames := 3, cells := 0, slots := 0, locals := 73 }
theorem hd_X7_homeward : yX7_homeward.cls ≠ "java/lang/invoke/MethodHandle" ∧ yX7_homeward.cls ≠ "java/lang/invoke/VarHandle" ∧ (parseMethodDescriptor yX7_homeward.desc).map (fun d => d.parameters.length) = some 2 := ⟨by decide +kernel, by decide +kernel, by decide +kernel⟩
theorem in_X7_homeward_X7 : ∀ w ∈ wsX70, w ∈ wsX7_homeward := fun w h => List.mem_cons_of_mem _ (List.mem_append_right _ h)
abbrev rm_X7_trade : Room := { frames := 3, cells := 0, slots := 0, locals := 73 }
theorem hd_X7_trade : yX7_trade.cls ≠ "java/lang/invoke/MethodHandle" ∧ yX7_trade.cls ≠ "java/lang/invoke/VarHandle" ∧ (parseMethodDescriptor yX7_trade.desc).map (fun d => d.parameters.length) = some 3 := ⟨by decide +kernel, by decide +kernel, by decide +kernel⟩
theorem in_X7_trade_X7 : ∀ w ∈ wsX70, w ∈ wsX7_trade := fun w h => List.mem_cons_of_mem _ (List.mem_append_right _ h)
abbrev rm_X7_ship : Room := { frames := 1, cells := 0, slots := 0, locals := 22 }
theorem hd_X7_ship : yX7_ship.cls ≠ "java/lang/invoke/MethodHandle" ∧ yX7_ship.cls ≠ "java/lang/invoke/VarHandle" ∧ (parseMethodDescriptor yX7_ship.desc).map (fun d => d.parameters.length) = some 2 := ⟨by decide +kernel, by decide +kernel, by decide +kernel⟩
theorem in_X7_ship_X7 : ∀ w ∈ wsX70, w ∈ wsX7_ship := fun w h => List.mem_cons_of_mem _ (List.mem_append_right _ h)
abbrev rm_X7_odds : Room := { frames := 2, cells := 0, slots := 0, locals := 43 }
theorem hd_X7_odds : yX7_odds.cls ≠ "java/lang/invoke/MethodHandle" ∧ yX7_odds.cls ≠ "java/lang/invoke/VarHandle" ∧ (parseMethodDescriptor yX7_odds.desc).map (fun d => d.parameters.length) = some 3 := ⟨by decide +kernel, by decide +kernel, by decide +kernel⟩
theorem in_X7_odds_X7 : ∀ w ∈ wsX70, w ∈ wsX7_odds := fun w h => List.mem_cons_of_mem _ (List.mem_append_right _ h)
abbrev rm_X7_saw : Room := { frames := 2, cells := 0, slots := 0, locals := 43 }
theorem hd_X7_saw : yX7_saw.cls ≠ "java/lang/invoke/MethodHandle" ∧ yX7_saw.cls ≠ "java/lang/invoke/VarHandle" ∧ (parseMethodDescriptor yX7_saw.desc).map (fun d => d.parameters.length) = some 2 := ⟨by decide +kernel, by decide +kernel, by decide +kernel⟩
theorem in_X7_saw_X7 : ∀ w ∈ wsX70, w ∈ wsX7_saw := fun w h => List.mem_cons_of_mem _ (List.mem_append_right _ h)
abbrev rm_X7_forget : Room := { frames := 0, cells := 0, slots := 0, locals := 0 }
theorem hd_X7_forget : yX7_forget.cls ≠ "java/lang/invoke/MethodHandle" ∧ yX7_forget.cls ≠ "java/lang/invoke/VarHandle" ∧ (parseMethodDescriptor yX7_forget.desc).map (fun d => d.parameters.length) = some 0 := ⟨by decide +kernel, by decide +kernel, by decide +kernel⟩
theorem in_X7_forget_X7 : ∀ w ∈ wsX70, w ∈ wsX7_forget := fun w h => List.mem_cons_of_mem _ (List.mem_append_right _ h)
abbrev rm_X7_isSo : Room := { frames := 0, cells := 0, slots := 0, locals := 0 }
theorem hd_X7_isSo : yX7_isSo.cls ≠ "java/lang/invoke/MethodHandle" ∧ yX7_isSo.cls ≠ "java/lang/invoke/VarHandle" ∧ (parseMethodDescriptor yX7_isSo.desc).map (fun d => d.parameters.length) = some 0 := ⟨by decide +kernel, by decide +kernel, by decide +kernel⟩
theorem in_X7_isSo_X7 : ∀ w ∈ wsX70, w ∈ wsX7_isSo := fun w h => List.mem_cons_of_mem _ (List.mem_append_right _ h)
abbrev rm_X7_fits : Room := { frames := 2, cells := 0, slots := 0, locals := 47 }
theorem hd_X7_fits : yX7_fits.cls ≠ "java/lang/invoke/MethodHandle" ∧ yX7_fits.cls ≠ "java/lang/invoke/VarHandle" ∧ (parseMethodDescriptor yX7_fits.desc).map (fun d => d.parameters.length) = some 1 := ⟨by decide +kernel, by decide +kernel, by decide +kernel⟩
theorem in_X7_fits_X7 : ∀ w ∈ wsX70, w ∈ wsX7_fits := fun w h => List.mem_cons_of_mem _ (List.mem_append_right _ h)
abbrev rm_X7_mark : Room := { frames := 2, cells := 0, slots := 0, locals := 45 }
theorem hd_X7_mark : yX7_mark.cls ≠ "java/lang/invoke/MethodHandle" ∧ yX7_mark.cls ≠ "java/lang/invoke/VarHandle" ∧ (parseMethodDescriptor yX7_mark.desc).map (fun d => d.parameters.length) = some 2 := ⟨by decide +kernel, by decide +kernel, by decide +kernel⟩
theorem in_X7_mark_X7 : ∀ w ∈ wsX70, w ∈ wsX7_mark := fun w h => List.mem_cons_of_mem _ (List.mem_append_right _ h)
abbrev rm_X7_keep : Room := { frames := 1, cells := 0, slots := 0, locals := 22 }
theorem hd_X7_keep : yX7_keep.cls ≠ "java/lang/invoke/MethodHandle" ∧ yX7_keep.cls ≠ "java/lang/invoke/VarHandle" ∧ (parseMethodDescriptor yX7_keep.desc).map (fun d => d.parameters.length) = some 1 := ⟨by decide +kernel, by decide +kernel, by decide +kernel⟩
theorem in_X7_keep_X7 : ∀ w ∈ wsX70, w ∈ wsX7_keep := fun w h => List.mem_cons_of_mem _ (List.mem_append_right _ h)
abbrev rm_X7_back : Room := { frames := 1, cells := 0, slots := 0, locals := 22 }
theorem hd_X7_back : yX7_back.cls ≠ "java/lang/invoke/MethodHandle" ∧ yX7_back.cls ≠ "java/lang/invoke/VarHandle" ∧ (parseMethodDescriptor yX7_back.desc).map (fun d => d.parameters.length) = some 1 := ⟨by decide +kernel, by decide +kernel, by decide +kernel⟩
theorem in_X7_back_X7 : ∀ w ∈ wsX70, w ∈ wsX7_back := fun w h => List.mem_cons_of_mem _ (List.mem_append_right _ h)
abbrev rm_X7_count : Room := { frames := 0, cells := 0, slots := 0, locals := 0 }
theorem hd_X7_count : yX7_count.cls ≠ "java/lang/invoke/MethodHandle" ∧ yX7_count.cls ≠ "java/lang/invoke/VarHandle" ∧ (parseMethodDescriptor yX7_count.desc).map (fun d => d.parameters.length) = some 1 := ⟨by decide +kernel, by decide +kernel, by decide +kernel⟩
theorem in_X7_count_X7 : ∀ w ∈ wsX70, w ∈ wsX7_count := fun w h => List.mem_cons_of_mem _ (List.mem_append_right _ h)
abbrev rm_X7_trace : Room := { frames := 0, cells := 0, slots := 0, locals := 0 }
theorem hd_X7_trace : yX7_trace.cls ≠ "java/lang/invoke/MethodHandle" ∧ yX7_trace.cls ≠ "java/lang/invoke/VarHandle" ∧ (parseMethodDescriptor yX7_trace.desc).map (fun d => d.parameters.length) = some 0 := ⟨by decide +kernel, by decide +kernel, by decide +kernel⟩
theorem in_X7_trace_X7 : ∀ w ∈ wsX70, w ∈ wsX7_trace := fun w h => List.mem_cons_of_mem _ (List.mem_append_right _ h)
