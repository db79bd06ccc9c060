/-! names: classes, fields, methods (printed by wip/gen) -/
def F_Nu : u_T := fun k => match k with
  | 0 => ("WardRoster$Nurse", "number", "I", true)
  | 1 => ("WardRoster$Nurse", "shiftCosts", "[I", true)
  | 2 => ("WardRoster$Nurse", "pairCosts", "[I", true)
  | 3 => ("WardRoster$Nurse", "fixedShifts", "[I", true)
  | 4 => ("WardRoster$Nurse", "forbidden", "I", false)
  | 5 => ("WardRoster$Nurse", "longest", "I", false)
  | 6 => ("WardRoster$Nurse", "start", "I", false)
  | _ => ("WardRoster$Nurse", "dayCount", "I", false)
def t_Nu : Nat → FieldType := fun k => match k with
  | 0 => .int
  | 1 => .array .int
  | 2 => .array .int
  | 3 => .array .int
  | 4 => .int
  | 5 => .int
  | 6 => .int
  | _ => .int
theorem n_Nu : ∀ a, a < 8 → ∀ b, b < 8 → a ≠ b → (F_Nu a).2.1 ≠ (F_Nu b).2.1 := by decide +kernel
theorem t_Nu_ok : ∀ k, k < 8 → parseFieldDescriptor (F_Nu k).2.2.1 = some (t_Nu k) := by decide +kernel
theorem df_Nu : ∀ j, j < 8 → defaultValue (t_Nu j) = vp_V [.int 0, .null, .null, .null, .int 0, .int 0, .int 0, .int 0] j := by
  intro j hj
  rcases (show j = 0 ∨ j = 1 ∨ j = 2 ∨ j = 3 ∨ j = 4 ∨ j = 5 ∨ j = 6 ∨ j = 7 by omega) with rfl | rfl | rfl | rfl | rfl | rfl | rfl | rfl <;> rfl
def F_Wa : u_T := fun k => match k with
  | 0 => ("WardRoster$Ward", "nurses", "[LWardRoster$Nurse;", true)
  | 1 => ("WardRoster$Ward", "needed", "[I", true)
  | _ => ("WardRoster$Ward", "dayCount", "I", false)
def t_Wa : Nat → FieldType := fun k => match k with
  | 0 => .array (.object "WardRoster$Nurse")
  | 1 => .array .int
  | _ => .int
theorem n_Wa : ∀ a, a < 3 → ∀ b, b < 3 → a ≠ b → (F_Wa a).2.1 ≠ (F_Wa b).2.1 := by decide +kernel
theorem t_Wa_ok : ∀ k, k < 3 → parseFieldDescriptor (F_Wa k).2.2.1 = some (t_Wa k) := by decide +kernel
theorem df_Wa : ∀ j, j < 3 → defaultValue (t_Wa j) = vp_V [.null, .null, .int 0] j := by
  intro j hj
  rcases (show j = 0 ∨ j = 1 ∨ j = 2 by omega) with rfl | rfl | rfl <;> rfl
def F_Lw : u_T := fun k => match k with
  | 0 => ("WardRoster$LineWalk", "keys", "[J", false)
  | 1 => ("WardRoster$LineWalk", "nextKeys", "[J", false)
  | 2 => ("WardRoster$LineWalk", "ways", "[I", false)
  | _ => ("WardRoster$LineWalk", "nextWays", "[I", false)
def t_Lw : Nat → FieldType := fun k => match k with
  | 0 => .array .long
  | 1 => .array .long
  | 2 => .array .int
  | _ => .array .int
theorem n_Lw : ∀ a, a < 4 → ∀ b, b < 4 → a ≠ b → (F_Lw a).2.1 ≠ (F_Lw b).2.1 := by decide +kernel
theorem t_Lw_ok : ∀ k, k < 4 → parseFieldDescriptor (F_Lw k).2.2.1 = some (t_Lw k) := by decide +kernel
theorem df_Lw : ∀ j, j < 4 → defaultValue (t_Lw j) = vp_V [.null, .null, .null, .null] j := by
  intro j hj
  rcases (show j = 0 ∨ j = 1 ∨ j = 2 ∨ j = 3 by omega) with rfl | rfl | rfl | rfl <;> rfl
def F_Rs : u_T := fun k => match k with
  | 0 => ("WardRoster$RosterSearch", "statesAfter", "[I", true)
  | 1 => ("WardRoster$RosterSearch", "steps", "[J", true)
  | 2 => ("WardRoster$RosterSearch", "keys", "[J", false)
  | _ => ("WardRoster$RosterSearch", "nextKeys", "[J", false)
def t_Rs : Nat → FieldType := fun k => match k with
  | 0 => .array .int
  | 1 => .array .long
  | 2 => .array .long
  | _ => .array .long
theorem n_Rs : ∀ a, a < 4 → ∀ b, b < 4 → a ≠ b → (F_Rs a).2.1 ≠ (F_Rs b).2.1 := by decide +kernel
theorem t_Rs_ok : ∀ k, k < 4 → parseFieldDescriptor (F_Rs k).2.2.1 = some (t_Rs k) := by decide +kernel
theorem df_Rs : ∀ j, j < 4 → defaultValue (t_Rs j) = vp_V [.null, .null, .null, .null] j := by
  intro j hj
  rcases (show j = 0 ∨ j = 1 ∨ j = 2 ∨ j = 3 by omega) with rfl | rfl | rfl | rfl <;> rfl
def F_Pr : u_T := fun k => match k with
  | 0 => ("WardRoster$Pricing", "prices", "[I", true)
  | 1 => ("WardRoster$Pricing", "greatestLimit", "I", false)
  | _ => ("WardRoster$Pricing", "roundCount", "I", false)
def t_Pr : Nat → FieldType := fun k => match k with
  | 0 => .array .int
  | 1 => .int
  | _ => .int
theorem n_Pr : ∀ a, a < 3 → ∀ b, b < 3 → a ≠ b → (F_Pr a).2.1 ≠ (F_Pr b).2.1 := by decide +kernel
theorem t_Pr_ok : ∀ k, k < 3 → parseFieldDescriptor (F_Pr k).2.2.1 = some (t_Pr k) := by decide +kernel
theorem df_Pr : ∀ j, j < 3 → defaultValue (t_Pr j) = vp_V [.null, .int 0, .int 0] j := by
  intro j hj
  rcases (show j = 0 ∨ j = 1 ∨ j = 2 by omega) with rfl | rfl | rfl <;> rfl
def F_Wr : u_T := fun k => match k with
  | 0 => ("WardRoster", "ward", "LWardRoster$Ward;", true)
  | 1 => ("WardRoster", "walk", "LWardRoster$LineWalk;", true)
  | 2 => ("WardRoster", "search", "LWardRoster$RosterSearch;", true)
  | 3 => ("WardRoster", "pricing", "LWardRoster$Pricing;", true)
  | 4 => ("WardRoster", "noPrices", "[I", true)
  | 5 => ("WardRoster", "plan", "J", false)
  | 6 => ("WardRoster", "bestKey", "J", false)
  | _ => ("WardRoster", "bestIsKnown", "Z", false)
def t_Wr : Nat → FieldType := fun k => match k with
  | 0 => .object "WardRoster$Ward"
  | 1 => .object "WardRoster$LineWalk"
  | 2 => .object "WardRoster$RosterSearch"
  | 3 => .object "WardRoster$Pricing"
  | 4 => .array .int
  | 5 => .long
  | 6 => .long
  | _ => .boolean
theorem n_Wr : ∀ a, a < 8 → ∀ b, b < 8 → a ≠ b → (F_Wr a).2.1 ≠ (F_Wr b).2.1 := by decide +kernel
theorem t_Wr_ok : ∀ k, k < 8 → parseFieldDescriptor (F_Wr k).2.2.1 = some (t_Wr k) := by decide +kernel
theorem df_Wr : ∀ j, j < 8 → defaultValue (t_Wr j) = vp_V [.null, .null, .null, .null, .null, .long 0, .long 0, .int 0] j := by
  intro j hj
  rcases (show j = 0 ∨ j = 1 ∨ j = 2 ∨ j = 3 ∨ j = 4 ∨ j = 5 ∨ j = 6 ∨ j = 7 by omega) with rfl | rfl | rfl | rfl | rfl | rfl | rfl | rfl <;> rfl
def F_Wm : u_T := fun k => match k with
  | 0 => ("WardRosterModel", "thrown", "I", false)
  | 1 => ("WardRosterModel", "days", "I", false)
  | 2 => ("WardRosterModel", "forbidden", "[I", true)
  | 3 => ("WardRosterModel", "longest", "[I", true)
  | 4 => ("WardRosterModel", "shiftBefore", "[I", true)
  | 5 => ("WardRosterModel", "workedBefore", "[I", true)
  | 6 => ("WardRosterModel", "needs", "[I", true)
  | 7 => ("WardRosterModel", "costs", "[I", true)
  | 8 => ("WardRosterModel", "pairs", "[I", true)
  | 9 => ("WardRosterModel", "fixed", "[I", true)
  | 10 => ("WardRosterModel", "prices", "[I", true)
  | 11 => ("WardRosterModel", "rounds", "I", false)
  | 12 => ("WardRosterModel", "bound", "I", false)
  | 13 => ("WardRosterModel", "counts", "[I", true)
  | 14 => ("WardRosterModel", "solved", "Z", false)
  | 15 => ("WardRosterModel", "least", "I", false)
  | 16 => ("WardRosterModel", "best", "[I", true)
  | 17 => ("WardRosterModel", "isPlan", "Z", false)
  | 18 => ("WardRosterModel", "plan", "[I", true)
  | 19 => ("WardRosterModel", "legal", "Z", false)
  | 20 => ("WardRosterModel", "penalty", "I", false)
  | 21 => ("WardRosterModel", "repairs", "Z", false)
  | 22 => ("WardRosterModel", "rest", "[I", true)
  | 23 => ("WardRosterModel", "after", "[I", true)
  | 24 => ("WardRosterModel", "weight", "[I", true)
  | 25 => ("WardRosterModel", "covers", "[Z", true)
  | _ => ("WardRosterModel", "found", "[I", true)
def t_Wm : Nat → FieldType := fun k => match k with
  | 0 => .int
  | 1 => .int
  | 2 => .array .int
  | 3 => .array .int
  | 4 => .array .int
  | 5 => .array .int
  | 6 => .array .int
  | 7 => .array .int
  | 8 => .array .int
  | 9 => .array .int
  | 10 => .array .int
  | 11 => .int
  | 12 => .int
  | 13 => .array .int
  | 14 => .boolean
  | 15 => .int
  | 16 => .array .int
  | 17 => .boolean
  | 18 => .array .int
  | 19 => .boolean
  | 20 => .int
  | 21 => .boolean
  | 22 => .array .int
  | 23 => .array .int
  | 24 => .array .int
  | 25 => .array .boolean
  | _ => .array .int
theorem n_Wm : ∀ a, a < 27 → ∀ b, b < 27 → a ≠ b → (F_Wm a).2.1 ≠ (F_Wm b).2.1 := by decide +kernel
theorem t_Wm_ok : ∀ k, k < 27 → parseFieldDescriptor (F_Wm k).2.2.1 = some (t_Wm k) := by decide +kernel
theorem df_Wm : ∀ j, j < 27 → defaultValue (t_Wm j) = vp_V [.int 0, .int 0, .null, .null, .null, .null, .null, .null, .null, .null, .null, .int 0, .int 0, .null, .int 0, .int 0, .null, .int 0, .null, .int 0, .int 0, .int 0, .null, .null, .null, .null, .null] j := by
  intro j hj
  rcases (show j = 0 ∨ j = 1 ∨ j = 2 ∨ j = 3 ∨ j = 4 ∨ j = 5 ∨ j = 6 ∨ j = 7 ∨ j = 8 ∨ j = 9 ∨ j = 10 ∨ j = 11 ∨ j = 12 ∨ j = 13 ∨ j = 14 ∨ j = 15 ∨ j = 16 ∨ j = 17 ∨ j = 18 ∨ j = 19 ∨ j = 20 ∨ j = 21 ∨ j = 22 ∨ j = 23 ∨ j = 24 ∨ j = 25 ∨ j = 26 by omega) with rfl | rfl | rfl | rfl | rfl | rfl | rfl | rfl | rfl | rfl | rfl | rfl | rfl | rfl | rfl | rfl | rfl | rfl | rfl | rfl | rfl | rfl | rfl | rfl | rfl | rfl | rfl <;> rfl
abbrev classes : List vw_C := [("WardRoster$Nurse", F_Nu, 8), ("WardRoster$Ward", F_Wa, 3), ("WardRoster$LineWalk", F_Lw, 4), ("WardRoster$RosterSearch", F_Rs, 4), ("WardRoster$Pricing", F_Pr, 3), ("WardRoster", F_Wr, 8), ("WardRosterModel", F_Wm, 27)]
abbrev b_Wr_cell : ByteArray := prog_1_method_32_code
def y_Wr_cell : MethodName := ⟨"WardRoster", "cell", "(II)I"⟩
def rm_Wr_cell : Room := { frames := 0, cells := 0, slots := 0, locals := 0 }
theorem hd_Wr_cell : y_Wr_cell.cls ≠ "java/lang/invoke/MethodHandle" ∧ y_Wr_cell.cls ≠ "java/lang/invoke/VarHandle" ∧ (parseMethodDescriptor y_Wr_cell.desc).map (fun d => d.parameters.length) = some 2 := by decide +kernel
abbrev b_Wr_stateOf : ByteArray := prog_1_method_33_code
def y_Wr_stateOf : MethodName := ⟨"WardRoster", "stateOf", "(II)I"⟩
def rm_Wr_stateOf : Room := { frames := 0, cells := 0, slots := 0, locals := 0 }
theorem hd_Wr_stateOf : y_Wr_stateOf.cls ≠ "java/lang/invoke/MethodHandle" ∧ y_Wr_stateOf.cls ≠ "java/lang/invoke/VarHandle" ∧ (parseMethodDescriptor y_Wr_stateOf.desc).map (fun d => d.parameters.length) = some 2 := by decide +kernel
abbrev b_Wr_shiftOf : ByteArray := prog_1_method_34_code
def y_Wr_shiftOf : MethodName := ⟨"WardRoster", "shiftOf", "(I)I"⟩
def rm_Wr_shiftOf : Room := { frames := 0, cells := 0, slots := 0, locals := 0 }
theorem hd_Wr_shiftOf : y_Wr_shiftOf.cls ≠ "java/lang/invoke/MethodHandle" ∧ y_Wr_shiftOf.cls ≠ "java/lang/invoke/VarHandle" ∧ (parseMethodDescriptor y_Wr_shiftOf.desc).map (fun d => d.parameters.length) = some 1 := by decide +kernel
abbrev b_Wr_workedOf : ByteArray := prog_1_method_35_code
def y_Wr_workedOf : MethodName := ⟨"WardRoster", "workedOf", "(I)I"⟩
def rm_Wr_workedOf : Room := { frames := 0, cells := 0, slots := 0, locals := 0 }
theorem hd_Wr_workedOf : y_Wr_workedOf.cls ≠ "java/lang/invoke/MethodHandle" ∧ y_Wr_workedOf.cls ≠ "java/lang/invoke/VarHandle" ∧ (parseMethodDescriptor y_Wr_workedOf.desc).map (fun d => d.parameters.length) = some 1 := by decide +kernel
abbrev b_Wr_placeBit : ByteArray := prog_1_method_36_code
def y_Wr_placeBit : MethodName := ⟨"WardRoster", "placeBit", "(II)I"⟩
def rm_Wr_placeBit : Room := { frames := 0, cells := 0, slots := 0, locals := 0 }
theorem hd_Wr_placeBit : y_Wr_placeBit.cls ≠ "java/lang/invoke/MethodHandle" ∧ y_Wr_placeBit.cls ≠ "java/lang/invoke/VarHandle" ∧ (parseMethodDescriptor y_Wr_placeBit.desc).map (fun d => d.parameters.length) = some 2 := by decide +kernel
abbrev b_Wr_stepKey : ByteArray := prog_1_method_37_code
def y_Wr_stepKey : MethodName := ⟨"WardRoster", "stepKey", "(III)J"⟩
def rm_Wr_stepKey : Room := { frames := 0, cells := 0, slots := 0, locals := 0 }
theorem hd_Wr_stepKey : y_Wr_stepKey.cls ≠ "java/lang/invoke/MethodHandle" ∧ y_Wr_stepKey.cls ≠ "java/lang/invoke/VarHandle" ∧ (parseMethodDescriptor y_Wr_stepKey.desc).map (fun d => d.parameters.length) = some 3 := by decide +kernel
abbrev b_Wr_shiftAt : ByteArray := prog_1_method_38_code
def y_Wr_shiftAt : MethodName := ⟨"WardRoster", "shiftAt", "(JI)I"⟩
def rm_Wr_shiftAt : Room := { frames := 0, cells := 0, slots := 0, locals := 0 }
theorem hd_Wr_shiftAt : y_Wr_shiftAt.cls ≠ "java/lang/invoke/MethodHandle" ∧ y_Wr_shiftAt.cls ≠ "java/lang/invoke/VarHandle" ∧ (parseMethodDescriptor y_Wr_shiftAt.desc).map (fun d => d.parameters.length) = some 2 := by decide +kernel
abbrev b_Wr_weightOf : ByteArray := prog_1_method_39_code
def y_Wr_weightOf : MethodName := ⟨"WardRoster", "weightOf", "(J)I"⟩
def rm_Wr_weightOf : Room := { frames := 0, cells := 0, slots := 0, locals := 0 }
theorem hd_Wr_weightOf : y_Wr_weightOf.cls ≠ "java/lang/invoke/MethodHandle" ∧ y_Wr_weightOf.cls ≠ "java/lang/invoke/VarHandle" ∧ (parseMethodDescriptor y_Wr_weightOf.desc).map (fun d => d.parameters.length) = some 1 := by decide +kernel
abbrev b_Wr_leastOf : ByteArray := prog_1_method_40_code
def y_Wr_leastOf : MethodName := ⟨"WardRoster", "leastOf", "([J)J"⟩
def rm_Wr_leastOf : Room := { frames := 1, cells := 0, slots := 0, locals := 23 }
theorem hd_Wr_leastOf : y_Wr_leastOf.cls ≠ "java/lang/invoke/MethodHandle" ∧ y_Wr_leastOf.cls ≠ "java/lang/invoke/VarHandle" ∧ (parseMethodDescriptor y_Wr_leastOf.desc).map (fun d => d.parameters.length) = some 1 := by decide +kernel
abbrev b_Rs_strideOf : ByteArray := prog_5_method_5_code
def y_Rs_strideOf : MethodName := ⟨"WardRoster$RosterSearch", "strideOf", "(I)I"⟩
def rm_Rs_strideOf : Room := { frames := 0, cells := 0, slots := 0, locals := 0 }
theorem hd_Rs_strideOf : y_Rs_strideOf.cls ≠ "java/lang/invoke/MethodHandle" ∧ y_Rs_strideOf.cls ≠ "java/lang/invoke/VarHandle" ∧ (parseMethodDescriptor y_Rs_strideOf.desc).map (fun d => d.parameters.length) = some 1 := by decide +kernel
abbrev b_Ar_fill_I : ByteArray := prog_17_method_103_code
def y_Ar_fill_I : MethodName := ⟨"java/util/Arrays", "fill", "([II)V"⟩
def rm_Ar_fill_I : Room := { frames := 0, cells := 0, slots := 0, locals := 0 }
theorem hd_Ar_fill_I : y_Ar_fill_I.cls ≠ "java/lang/invoke/MethodHandle" ∧ y_Ar_fill_I.cls ≠ "java/lang/invoke/VarHandle" ∧ (parseMethodDescriptor y_Ar_fill_I.desc).map (fun d => d.parameters.length) = some 2 := by decide +kernel
abbrev b_Ar_fill_J : ByteArray := prog_17_method_101_code
def y_Ar_fill_J : MethodName := ⟨"java/util/Arrays", "fill", "([JJ)V"⟩
def rm_Ar_fill_J : Room := { frames := 0, cells := 0, slots := 0, locals := 0 }
theorem hd_Ar_fill_J : y_Ar_fill_J.cls ≠ "java/lang/invoke/MethodHandle" ∧ y_Ar_fill_J.cls ≠ "java/lang/invoke/VarHandle" ∧ (parseMethodDescriptor y_Ar_fill_J.desc).map (fun d => d.parameters.length) = some 2 := by decide +kernel
abbrev b_Nu_clear : ByteArray := prog_3_method_2_code
def y_Nu_clear : MethodName := ⟨"WardRoster$Nurse", "clear", "(I)V"⟩
def rm_Nu_clear : Room := { frames := 1, cells := 0, slots := 0, locals := 23 }
theorem hd_Nu_clear : y_Nu_clear.cls ≠ "java/lang/invoke/MethodHandle" ∧ y_Nu_clear.cls ≠ "java/lang/invoke/VarHandle" ∧ (parseMethodDescriptor y_Nu_clear.desc).map (fun d => d.parameters.length) = some 1 := by decide +kernel
abbrev b_Nu_stateAfter : ByteArray := prog_3_method_3_code
def y_Nu_stateAfter : MethodName := ⟨"WardRoster$Nurse", "stateAfter", "(III)I"⟩
def rm_Nu_stateAfter : Room := { frames := 1, cells := 0, slots := 0, locals := 21 }
theorem hd_Nu_stateAfter : y_Nu_stateAfter.cls ≠ "java/lang/invoke/MethodHandle" ∧ y_Nu_stateAfter.cls ≠ "java/lang/invoke/VarHandle" ∧ (parseMethodDescriptor y_Nu_stateAfter.desc).map (fun d => d.parameters.length) = some 3 := by decide +kernel
abbrev b_Nu_penaltyOf : ByteArray := prog_3_method_4_code
def y_Nu_penaltyOf : MethodName := ⟨"WardRoster$Nurse", "penaltyOf", "(III)I"⟩
def rm_Nu_penaltyOf : Room := { frames := 1, cells := 0, slots := 0, locals := 21 }
theorem hd_Nu_penaltyOf : y_Nu_penaltyOf.cls ≠ "java/lang/invoke/MethodHandle" ∧ y_Nu_penaltyOf.cls ≠ "java/lang/invoke/VarHandle" ∧ (parseMethodDescriptor y_Nu_penaltyOf.desc).map (fun d => d.parameters.length) = some 3 := by decide +kernel
abbrev b_Nu_allowsLine : ByteArray := prog_3_method_5_code
def y_Nu_allowsLine : MethodName := ⟨"WardRoster$Nurse", "allowsLine", "(J)Z"⟩
def rm_Nu_allowsLine : Room := { frames := 2, cells := 0, slots := 0, locals := 46 }
theorem hd_Nu_allowsLine : y_Nu_allowsLine.cls ≠ "java/lang/invoke/MethodHandle" ∧ y_Nu_allowsLine.cls ≠ "java/lang/invoke/VarHandle" ∧ (parseMethodDescriptor y_Nu_allowsLine.desc).map (fun d => d.parameters.length) = some 1 := by decide +kernel
abbrev b_Wa_clear : ByteArray := prog_6_method_2_code
def y_Wa_clear : MethodName := ⟨"WardRoster$Ward", "clear", "(I)V"⟩
def rm_Wa_clear : Room := { frames := 2, cells := 0, slots := 0, locals := 44 }
theorem hd_Wa_clear : y_Wa_clear.cls ≠ "java/lang/invoke/MethodHandle" ∧ y_Wa_clear.cls ≠ "java/lang/invoke/VarHandle" ∧ (parseMethodDescriptor y_Wa_clear.desc).map (fun d => d.parameters.length) = some 1 := by decide +kernel
abbrev b_Wa_missing : ByteArray := prog_6_method_4_code
def y_Wa_missing : MethodName := ⟨"WardRoster$Ward", "missing", "(JII)I"⟩
def rm_Wa_missing : Room := { frames := 1, cells := 0, slots := 0, locals := 22 }
theorem hd_Wa_missing : y_Wa_missing.cls ≠ "java/lang/invoke/MethodHandle" ∧ y_Wa_missing.cls ≠ "java/lang/invoke/VarHandle" ∧ (parseMethodDescriptor y_Wa_missing.desc).map (fun d => d.parameters.length) = some 3 := by decide +kernel
abbrev b_Wa_countShort : ByteArray := prog_6_method_3_code
def y_Wa_countShort : MethodName := ⟨"WardRoster$Ward", "countShort", "(JI)I"⟩
def rm_Wa_countShort : Room := { frames := 2, cells := 0, slots := 0, locals := 48 }
theorem hd_Wa_countShort : y_Wa_countShort.cls ≠ "java/lang/invoke/MethodHandle" ∧ y_Wa_countShort.cls ≠ "java/lang/invoke/VarHandle" ∧ (parseMethodDescriptor y_Wa_countShort.desc).map (fun d => d.parameters.length) = some 2 := by decide +kernel
abbrev b_Lw_swapRows : ByteArray := prog_2_method_4_code
def y_Lw_swapRows : MethodName := ⟨"WardRoster$LineWalk", "swapRows", "()V"⟩
def rm_Lw_swapRows : Room := { frames := 0, cells := 0, slots := 0, locals := 0 }
theorem hd_Lw_swapRows : y_Lw_swapRows.cls ≠ "java/lang/invoke/MethodHandle" ∧ y_Lw_swapRows.cls ≠ "java/lang/invoke/VarHandle" ∧ (parseMethodDescriptor y_Lw_swapRows.desc).map (fun d => d.parameters.length) = some 0 := by decide +kernel
abbrev b_Lw_countLines : ByteArray := prog_2_method_5_code
def y_Lw_countLines : MethodName := ⟨"WardRoster$LineWalk", "countLines", "()I"⟩
def rm_Lw_countLines : Room := { frames := 0, cells := 0, slots := 0, locals := 0 }
theorem hd_Lw_countLines : y_Lw_countLines.cls ≠ "java/lang/invoke/MethodHandle" ∧ y_Lw_countLines.cls ≠ "java/lang/invoke/VarHandle" ∧ (parseMethodDescriptor y_Lw_countLines.desc).map (fun d => d.parameters.length) = some 0 := by decide +kernel
abbrev b_Lw_leaveState : ByteArray := prog_2_method_3_code
def y_Lw_leaveState : MethodName := ⟨"WardRoster$LineWalk", "leaveState", "(LWardRoster$Nurse;II[I)V"⟩
def rm_Lw_leaveState : Room := { frames := 2, cells := 0, slots := 0, locals := 46 }
theorem hd_Lw_leaveState : y_Lw_leaveState.cls ≠ "java/lang/invoke/MethodHandle" ∧ y_Lw_leaveState.cls ≠ "java/lang/invoke/VarHandle" ∧ (parseMethodDescriptor y_Lw_leaveState.desc).map (fun d => d.parameters.length) = some 4 := by decide +kernel
abbrev b_Lw_walkLines : ByteArray := prog_2_method_2_code
def y_Lw_walkLines : MethodName := ⟨"WardRoster$LineWalk", "walkLines", "(LWardRoster$Nurse;[I)J"⟩
def rm_Lw_walkLines : Room := { frames := 3, cells := 0, slots := 0, locals := 76 }
theorem hd_Lw_walkLines : y_Lw_walkLines.cls ≠ "java/lang/invoke/MethodHandle" ∧ y_Lw_walkLines.cls ≠ "java/lang/invoke/VarHandle" ∧ (parseMethodDescriptor y_Lw_walkLines.desc).map (fun d => d.parameters.length) = some 2 := by decide +kernel
abbrev b_Rs_startTriple : ByteArray := prog_5_method_3_code
def y_Rs_startTriple : MethodName := ⟨"WardRoster$RosterSearch", "startTriple", "(LWardRoster$Ward;)I"⟩
def rm_Rs_startTriple : Room := { frames := 1, cells := 0, slots := 0, locals := 20 }
theorem hd_Rs_startTriple : y_Rs_startTriple.cls ≠ "java/lang/invoke/MethodHandle" ∧ y_Rs_startTriple.cls ≠ "java/lang/invoke/VarHandle" ∧ (parseMethodDescriptor y_Rs_startTriple.desc).map (fun d => d.parameters.length) = some 1 := by decide +kernel
abbrev b_Rs_readSteps : ByteArray := prog_5_method_4_code
def y_Rs_readSteps : MethodName := ⟨"WardRoster$RosterSearch", "readSteps", "(LWardRoster$Nurse;IJ)V"⟩
def rm_Rs_readSteps : Room := { frames := 2, cells := 0, slots := 0, locals := 46 }
theorem hd_Rs_readSteps : y_Rs_readSteps.cls ≠ "java/lang/invoke/MethodHandle" ∧ y_Rs_readSteps.cls ≠ "java/lang/invoke/VarHandle" ∧ (parseMethodDescriptor y_Rs_readSteps.desc).map (fun d => d.parameters.length) = some 3 := by decide +kernel
abbrev b_Rs_leaveTriple : ByteArray := prog_5_method_7_code
def y_Rs_leaveTriple : MethodName := ⟨"WardRoster$RosterSearch", "leaveTriple", "(II)V"⟩
def rm_Rs_leaveTriple : Room := { frames := 1, cells := 0, slots := 0, locals := 23 }
theorem hd_Rs_leaveTriple : y_Rs_leaveTriple.cls ≠ "java/lang/invoke/MethodHandle" ∧ y_Rs_leaveTriple.cls ≠ "java/lang/invoke/VarHandle" ∧ (parseMethodDescriptor y_Rs_leaveTriple.desc).map (fun d => d.parameters.length) = some 2 := by decide +kernel
abbrev b_Rs_takePlace : ByteArray := prog_5_method_6_code
def y_Rs_takePlace : MethodName := ⟨"WardRoster$RosterSearch", "takePlace", "(I)V"⟩
def rm_Rs_takePlace : Room := { frames := 2, cells := 0, slots := 0, locals := 52 }
theorem hd_Rs_takePlace : y_Rs_takePlace.cls ≠ "java/lang/invoke/MethodHandle" ∧ y_Rs_takePlace.cls ≠ "java/lang/invoke/VarHandle" ∧ (parseMethodDescriptor y_Rs_takePlace.desc).map (fun d => d.parameters.length) = some 1 := by decide +kernel
abbrev b_Rs_dropShort : ByteArray := prog_5_method_8_code
def y_Rs_dropShort : MethodName := ⟨"WardRoster$RosterSearch", "dropShort", "(LWardRoster$Ward;I)V"⟩
def rm_Rs_dropShort : Room := { frames := 3, cells := 0, slots := 0, locals := 73 }
theorem hd_Rs_dropShort : y_Rs_dropShort.cls ≠ "java/lang/invoke/MethodHandle" ∧ y_Rs_dropShort.cls ≠ "java/lang/invoke/VarHandle" ∧ (parseMethodDescriptor y_Rs_dropShort.desc).map (fun d => d.parameters.length) = some 2 := by decide +kernel
abbrev b_Rs_findRoster : ByteArray := prog_5_method_2_code
def y_Rs_findRoster : MethodName := ⟨"WardRoster$RosterSearch", "findRoster", "(LWardRoster$Ward;J)J"⟩
def rm_Rs_findRoster : Room := { frames := 4, cells := 0, slots := 0, locals := 96 }
theorem hd_Rs_findRoster : y_Rs_findRoster.cls ≠ "java/lang/invoke/MethodHandle" ∧ y_Rs_findRoster.cls ≠ "java/lang/invoke/VarHandle" ∧ (parseMethodDescriptor y_Rs_findRoster.desc).map (fun d => d.parameters.length) = some 2 := by decide +kernel
abbrev b_Pr_clear : ByteArray := prog_4_method_2_code
def y_Pr_clear : MethodName := ⟨"WardRoster$Pricing", "clear", "()V"⟩
def rm_Pr_clear : Room := { frames := 1, cells := 0, slots := 0, locals := 23 }
theorem hd_Pr_clear : y_Pr_clear.cls ≠ "java/lang/invoke/MethodHandle" ∧ y_Pr_clear.cls ≠ "java/lang/invoke/VarHandle" ∧ (parseMethodDescriptor y_Pr_clear.desc).map (fun d => d.parameters.length) = some 0 := by decide +kernel
abbrev b_Pr_priceOfNeeds : ByteArray := prog_4_method_4_code
def y_Pr_priceOfNeeds : MethodName := ⟨"WardRoster$Pricing", "priceOfNeeds", "(LWardRoster$Ward;)I"⟩
def rm_Pr_priceOfNeeds : Room := { frames := 0, cells := 0, slots := 0, locals := 0 }
theorem hd_Pr_priceOfNeeds : y_Pr_priceOfNeeds.cls ≠ "java/lang/invoke/MethodHandle" ∧ y_Pr_priceOfNeeds.cls ≠ "java/lang/invoke/VarHandle" ∧ (parseMethodDescriptor y_Pr_priceOfNeeds.desc).map (fun d => d.parameters.length) = some 1 := by decide +kernel
abbrev b_Pr_nextGrowth : ByteArray := prog_4_method_6_code
def y_Pr_nextGrowth : MethodName := ⟨"WardRoster$Pricing", "nextGrowth", "()I"⟩
def rm_Pr_nextGrowth : Room := { frames := 0, cells := 0, slots := 0, locals := 0 }
theorem hd_Pr_nextGrowth : y_Pr_nextGrowth.cls ≠ "java/lang/invoke/MethodHandle" ∧ y_Pr_nextGrowth.cls ≠ "java/lang/invoke/VarHandle" ∧ (parseMethodDescriptor y_Pr_nextGrowth.desc).map (fun d => d.parameters.length) = some 0 := by decide +kernel
abbrev b_Pr_movePrices : ByteArray := prog_4_method_5_code
def y_Pr_movePrices : MethodName := ⟨"WardRoster$Pricing", "movePrices", "(LWardRoster$Ward;J)V"⟩
def rm_Pr_movePrices : Room := { frames := 2, cells := 0, slots := 0, locals := 48 }
theorem hd_Pr_movePrices : y_Pr_movePrices.cls ≠ "java/lang/invoke/MethodHandle" ∧ y_Pr_movePrices.cls ≠ "java/lang/invoke/VarHandle" ∧ (parseMethodDescriptor y_Pr_movePrices.desc).map (fun d => d.parameters.length) = some 2 := by decide +kernel
abbrev b_Pr_playRound : ByteArray := prog_4_method_3_code
def y_Pr_playRound : MethodName := ⟨"WardRoster$Pricing", "playRound", "(LWardRoster$Ward;LWardRoster$LineWalk;)V"⟩
def rm_Pr_playRound : Room := { frames := 4, cells := 0, slots := 0, locals := 100 }
theorem hd_Pr_playRound : y_Pr_playRound.cls ≠ "java/lang/invoke/MethodHandle" ∧ y_Pr_playRound.cls ≠ "java/lang/invoke/VarHandle" ∧ (parseMethodDescriptor y_Pr_playRound.desc).map (fun d => d.parameters.length) = some 2 := by decide +kernel
abbrev b_Wr_forgetAnswers : ByteArray := prog_1_method_22_code
def y_Wr_forgetAnswers : MethodName := ⟨"WardRoster", "forgetAnswers", "()V"⟩
def rm_Wr_forgetAnswers : Room := { frames := 2, cells := 0, slots := 0, locals := 43 }
theorem hd_Wr_forgetAnswers : y_Wr_forgetAnswers.cls ≠ "java/lang/invoke/MethodHandle" ∧ y_Wr_forgetAnswers.cls ≠ "java/lang/invoke/VarHandle" ∧ (parseMethodDescriptor y_Wr_forgetAnswers.desc).map (fun d => d.parameters.length) = some 0 := by decide +kernel
abbrev b_Wr_startWard : ByteArray := prog_1_method_21_code
def y_Wr_startWard : MethodName := ⟨"WardRoster", "startWard", "(I)V"⟩
def rm_Wr_startWard : Room := { frames := 3, cells := 0, slots := 0, locals := 66 }
theorem hd_Wr_startWard : y_Wr_startWard.cls ≠ "java/lang/invoke/MethodHandle" ∧ y_Wr_startWard.cls ≠ "java/lang/invoke/VarHandle" ∧ (parseMethodDescriptor y_Wr_startWard.desc).map (fun d => d.parameters.length) = some 1 := by decide +kernel
abbrev b_Wr_findBest : ByteArray := prog_1_method_23_code
def y_Wr_findBest : MethodName := ⟨"WardRoster", "findBest", "()V"⟩
def rm_Wr_findBest : Room := { frames := 5, cells := 0, slots := 0, locals := 121 }
theorem hd_Wr_findBest : y_Wr_findBest.cls ≠ "java/lang/invoke/MethodHandle" ∧ y_Wr_findBest.cls ≠ "java/lang/invoke/VarHandle" ∧ (parseMethodDescriptor y_Wr_findBest.desc).map (fun d => d.parameters.length) = some 0 := by decide +kernel
abbrev b_Wr_walkUnpriced : ByteArray := prog_1_method_24_code
def y_Wr_walkUnpriced : MethodName := ⟨"WardRoster", "walkUnpriced", "(I)J"⟩
def rm_Wr_walkUnpriced : Room := { frames := 4, cells := 0, slots := 0, locals := 100 }
theorem hd_Wr_walkUnpriced : y_Wr_walkUnpriced.cls ≠ "java/lang/invoke/MethodHandle" ∧ y_Wr_walkUnpriced.cls ≠ "java/lang/invoke/VarHandle" ∧ (parseMethodDescriptor y_Wr_walkUnpriced.desc).map (fun d => d.parameters.length) = some 1 := by decide +kernel
abbrev b_Wr_days : ByteArray := prog_1_method_9_code
def y_Wr_days : MethodName := ⟨"WardRoster", "days", "()I"⟩
def rm_Wr_days : Room := { frames := 0, cells := 0, slots := 0, locals := 0 }
theorem hd_Wr_days : y_Wr_days.cls ≠ "java/lang/invoke/MethodHandle" ∧ y_Wr_days.cls ≠ "java/lang/invoke/VarHandle" ∧ (parseMethodDescriptor y_Wr_days.desc).map (fun d => d.parameters.length) = some 0 := by decide +kernel
abbrev b_Wr_bound : ByteArray := prog_1_method_15_code
def y_Wr_bound : MethodName := ⟨"WardRoster", "bound", "()I"⟩
def rm_Wr_bound : Room := { frames := 0, cells := 0, slots := 0, locals := 0 }
theorem hd_Wr_bound : y_Wr_bound.cls ≠ "java/lang/invoke/MethodHandle" ∧ y_Wr_bound.cls ≠ "java/lang/invoke/VarHandle" ∧ (parseMethodDescriptor y_Wr_bound.desc).map (fun d => d.parameters.length) = some 0 := by decide +kernel
abbrev b_Wr_least : ByteArray := prog_1_method_12_code
def y_Wr_least : MethodName := ⟨"WardRoster", "least", "()I"⟩
def rm_Wr_least : Room := { frames := 6, cells := 0, slots := 0, locals := 141 }
theorem hd_Wr_least : y_Wr_least.cls ≠ "java/lang/invoke/MethodHandle" ∧ y_Wr_least.cls ≠ "java/lang/invoke/VarHandle" ∧ (parseMethodDescriptor y_Wr_least.desc).map (fun d => d.parameters.length) = some 0 := by decide +kernel
abbrev b_Wr_check : ByteArray := prog_1_method_20_code
def y_Wr_check : MethodName := ⟨"WardRoster", "check", "()I"⟩
def rm_Wr_check : Room := { frames := 3, cells := 0, slots := 0, locals := 73 }
theorem hd_Wr_check : y_Wr_check.cls ≠ "java/lang/invoke/MethodHandle" ∧ y_Wr_check.cls ≠ "java/lang/invoke/VarHandle" ∧ (parseMethodDescriptor y_Wr_check.desc).map (fun d => d.parameters.length) = some 0 := by decide +kernel
abbrev b_Wm_thrown : ByteArray := prog_8_method_2_code
def y_Wm_thrown : MethodName := ⟨"WardRosterModel", "thrown", "()I"⟩
def rm_Wm_thrown : Room := { frames := 0, cells := 0, slots := 0, locals := 0 }
theorem hd_Wm_thrown : y_Wm_thrown.cls ≠ "java/lang/invoke/MethodHandle" ∧ y_Wm_thrown.cls ≠ "java/lang/invoke/VarHandle" ∧ (parseMethodDescriptor y_Wm_thrown.desc).map (fun d => d.parameters.length) = some 0 := by decide +kernel
abbrev b_Wm_change : ByteArray := prog_8_method_4_code
def y_Wm_change : MethodName := ⟨"WardRosterModel", "change", "()V"⟩
def rm_Wm_change : Room := { frames := 0, cells := 0, slots := 0, locals := 0 }
theorem hd_Wm_change : y_Wm_change.cls ≠ "java/lang/invoke/MethodHandle" ∧ y_Wm_change.cls ≠ "java/lang/invoke/VarHandle" ∧ (parseMethodDescriptor y_Wm_change.desc).map (fun d => d.parameters.length) = some 0 := by decide +kernel
abbrev b_Wm_begin : ByteArray := prog_8_method_3_code
def y_Wm_begin : MethodName := ⟨"WardRosterModel", "begin", "(I)V"⟩
def rm_Wm_begin : Room := { frames := 1, cells := 0, slots := 0, locals := 21 }
theorem hd_Wm_begin : y_Wm_begin.cls ≠ "java/lang/invoke/MethodHandle" ∧ y_Wm_begin.cls ≠ "java/lang/invoke/VarHandle" ∧ (parseMethodDescriptor y_Wm_begin.desc).map (fun d => d.parameters.length) = some 1 := by decide +kernel
abbrev b_Wm_noNurse : ByteArray := prog_8_method_6_code
def y_Wm_noNurse : MethodName := ⟨"WardRosterModel", "noNurse", "(I)Z"⟩
def rm_Wm_noNurse : Room := { frames := 0, cells := 0, slots := 0, locals := 0 }
theorem hd_Wm_noNurse : y_Wm_noNurse.cls ≠ "java/lang/invoke/MethodHandle" ∧ y_Wm_noNurse.cls ≠ "java/lang/invoke/VarHandle" ∧ (parseMethodDescriptor y_Wm_noNurse.desc).map (fun d => d.parameters.length) = some 1 := by decide +kernel
abbrev b_Wm_noDay : ByteArray := prog_8_method_7_code
def y_Wm_noDay : MethodName := ⟨"WardRosterModel", "noDay", "(I)Z"⟩
def rm_Wm_noDay : Room := { frames := 0, cells := 0, slots := 0, locals := 0 }
theorem hd_Wm_noDay : y_Wm_noDay.cls ≠ "java/lang/invoke/MethodHandle" ∧ y_Wm_noDay.cls ≠ "java/lang/invoke/VarHandle" ∧ (parseMethodDescriptor y_Wm_noDay.desc).map (fun d => d.parameters.length) = some 1 := by decide +kernel
abbrev b_Wm_noShift : ByteArray := prog_8_method_8_code
def y_Wm_noShift : MethodName := ⟨"WardRosterModel", "noShift", "(I)Z"⟩
def rm_Wm_noShift : Room := { frames := 0, cells := 0, slots := 0, locals := 0 }
theorem hd_Wm_noShift : y_Wm_noShift.cls ≠ "java/lang/invoke/MethodHandle" ∧ y_Wm_noShift.cls ≠ "java/lang/invoke/VarHandle" ∧ (parseMethodDescriptor y_Wm_noShift.desc).map (fun d => d.parameters.length) = some 1 := by decide +kernel
abbrev b_Wm_open : ByteArray := prog_8_method_5_code
def y_Wm_open : MethodName := ⟨"WardRosterModel", "open", "(I)V"⟩
def rm_Wm_open : Room := { frames := 2, cells := 0, slots := 0, locals := 43 }
theorem hd_Wm_open : y_Wm_open.cls ≠ "java/lang/invoke/MethodHandle" ∧ y_Wm_open.cls ≠ "java/lang/invoke/VarHandle" ∧ (parseMethodDescriptor y_Wm_open.desc).map (fun d => d.parameters.length) = some 1 := by decide +kernel
abbrev b_Wm_contract : ByteArray := prog_8_method_9_code
def y_Wm_contract : MethodName := ⟨"WardRosterModel", "contract", "(III)V"⟩
def rm_Wm_contract : Room := { frames := 1, cells := 0, slots := 0, locals := 21 }
theorem hd_Wm_contract : y_Wm_contract.cls ≠ "java/lang/invoke/MethodHandle" ∧ y_Wm_contract.cls ≠ "java/lang/invoke/VarHandle" ∧ (parseMethodDescriptor y_Wm_contract.desc).map (fun d => d.parameters.length) = some 3 := by decide +kernel
abbrev b_Wm_before : ByteArray := prog_8_method_10_code
def y_Wm_before : MethodName := ⟨"WardRosterModel", "before", "(III)V"⟩
def rm_Wm_before : Room := { frames := 1, cells := 0, slots := 0, locals := 21 }
theorem hd_Wm_before : y_Wm_before.cls ≠ "java/lang/invoke/MethodHandle" ∧ y_Wm_before.cls ≠ "java/lang/invoke/VarHandle" ∧ (parseMethodDescriptor y_Wm_before.desc).map (fun d => d.parameters.length) = some 3 := by decide +kernel
abbrev b_Wm_need : ByteArray := prog_8_method_11_code
def y_Wm_need : MethodName := ⟨"WardRosterModel", "need", "(III)I"⟩
def rm_Wm_need : Room := { frames := 1, cells := 0, slots := 0, locals := 21 }
theorem hd_Wm_need : y_Wm_need.cls ≠ "java/lang/invoke/MethodHandle" ∧ y_Wm_need.cls ≠ "java/lang/invoke/VarHandle" ∧ (parseMethodDescriptor y_Wm_need.desc).map (fun d => d.parameters.length) = some 3 := by decide +kernel
abbrev b_Wm_cost : ByteArray := prog_8_method_12_code
def y_Wm_cost : MethodName := ⟨"WardRosterModel", "cost", "(IIII)I"⟩
def rm_Wm_cost : Room := { frames := 1, cells := 0, slots := 0, locals := 21 }
theorem hd_Wm_cost : y_Wm_cost.cls ≠ "java/lang/invoke/MethodHandle" ∧ y_Wm_cost.cls ≠ "java/lang/invoke/VarHandle" ∧ (parseMethodDescriptor y_Wm_cost.desc).map (fun d => d.parameters.length) = some 4 := by decide +kernel
abbrev b_Wm_pair : ByteArray := prog_8_method_13_code
def y_Wm_pair : MethodName := ⟨"WardRosterModel", "pair", "(IIII)I"⟩
def rm_Wm_pair : Room := { frames := 1, cells := 0, slots := 0, locals := 21 }
theorem hd_Wm_pair : y_Wm_pair.cls ≠ "java/lang/invoke/MethodHandle" ∧ y_Wm_pair.cls ≠ "java/lang/invoke/VarHandle" ∧ (parseMethodDescriptor y_Wm_pair.desc).map (fun d => d.parameters.length) = some 4 := by decide +kernel
abbrev b_Wm_fix : ByteArray := prog_8_method_14_code
def y_Wm_fix : MethodName := ⟨"WardRosterModel", "fix", "(III)I"⟩
def rm_Wm_fix : Room := { frames := 1, cells := 0, slots := 0, locals := 21 }
theorem hd_Wm_fix : y_Wm_fix.cls ≠ "java/lang/invoke/MethodHandle" ∧ y_Wm_fix.cls ≠ "java/lang/invoke/VarHandle" ∧ (parseMethodDescriptor y_Wm_fix.desc).map (fun d => d.parameters.length) = some 3 := by decide +kernel
abbrev b_Wm_days : ByteArray := prog_8_method_15_code
def y_Wm_days : MethodName := ⟨"WardRosterModel", "days", "()I"⟩
def rm_Wm_days : Room := { frames := 0, cells := 0, slots := 0, locals := 0 }
theorem hd_Wm_days : y_Wm_days.cls ≠ "java/lang/invoke/MethodHandle" ∧ y_Wm_days.cls ≠ "java/lang/invoke/VarHandle" ∧ (parseMethodDescriptor y_Wm_days.desc).map (fun d => d.parameters.length) = some 0 := by decide +kernel
abbrev b_Wm_allLines : ByteArray := prog_8_method_16_code
def y_Wm_allLines : MethodName := ⟨"WardRosterModel", "allLines", "()I"⟩
def rm_Wm_allLines : Room := { frames := 0, cells := 0, slots := 0, locals := 0 }
theorem hd_Wm_allLines : y_Wm_allLines.cls ≠ "java/lang/invoke/MethodHandle" ∧ y_Wm_allLines.cls ≠ "java/lang/invoke/VarHandle" ∧ (parseMethodDescriptor y_Wm_allLines.desc).map (fun d => d.parameters.length) = some 0 := by decide +kernel
abbrev b_Wm_shiftOf : ByteArray := prog_8_method_17_code
def y_Wm_shiftOf : MethodName := ⟨"WardRosterModel", "shiftOf", "(II)I"⟩
def rm_Wm_shiftOf : Room := { frames := 0, cells := 0, slots := 0, locals := 0 }
theorem hd_Wm_shiftOf : y_Wm_shiftOf.cls ≠ "java/lang/invoke/MethodHandle" ∧ y_Wm_shiftOf.cls ≠ "java/lang/invoke/VarHandle" ∧ (parseMethodDescriptor y_Wm_shiftOf.desc).map (fun d => d.parameters.length) = some 2 := by decide +kernel
abbrev b_Wm_walk : ByteArray := prog_8_method_18_code
def y_Wm_walk : MethodName := ⟨"WardRosterModel", "walk", "(II)V"⟩
def rm_Wm_walk : Room := { frames := 1, cells := 0, slots := 0, locals := 22 }
theorem hd_Wm_walk : y_Wm_walk.cls ≠ "java/lang/invoke/MethodHandle" ∧ y_Wm_walk.cls ≠ "java/lang/invoke/VarHandle" ∧ (parseMethodDescriptor y_Wm_walk.desc).map (fun d => d.parameters.length) = some 2 := by decide +kernel
abbrev b_Wm_lines : ByteArray := prog_8_method_19_code
def y_Wm_lines : MethodName := ⟨"WardRosterModel", "lines", "(I)I"⟩
def rm_Wm_lines : Room := { frames := 2, cells := 0, slots := 0, locals := 49 }
theorem hd_Wm_lines : y_Wm_lines.cls ≠ "java/lang/invoke/MethodHandle" ∧ y_Wm_lines.cls ≠ "java/lang/invoke/VarHandle" ∧ (parseMethodDescriptor y_Wm_lines.desc).map (fun d => d.parameters.length) = some 1 := by decide +kernel
abbrev b_Wm_priceOf : ByteArray := prog_8_method_20_code
def y_Wm_priceOf : MethodName := ⟨"WardRosterModel", "priceOf", "(I)I"⟩
def rm_Wm_priceOf : Room := { frames := 1, cells := 0, slots := 0, locals := 22 }
theorem hd_Wm_priceOf : y_Wm_priceOf.cls ≠ "java/lang/invoke/MethodHandle" ∧ y_Wm_priceOf.cls ≠ "java/lang/invoke/VarHandle" ∧ (parseMethodDescriptor y_Wm_priceOf.desc).map (fun d => d.parameters.length) = some 1 := by decide +kernel
abbrev b_Wm_pricedLine : ByteArray := prog_8_method_21_code
def y_Wm_pricedLine : MethodName := ⟨"WardRosterModel", "pricedLine", "(I)I"⟩
def rm_Wm_pricedLine : Room := { frames := 2, cells := 0, slots := 0, locals := 49 }
theorem hd_Wm_pricedLine : y_Wm_pricedLine.cls ≠ "java/lang/invoke/MethodHandle" ∧ y_Wm_pricedLine.cls ≠ "java/lang/invoke/VarHandle" ∧ (parseMethodDescriptor y_Wm_pricedLine.desc).map (fun d => d.parameters.length) = some 1 := by decide +kernel
abbrev b_Wm_line : ByteArray := prog_8_method_22_code
def y_Wm_line : MethodName := ⟨"WardRosterModel", "line", "(I)I"⟩
def rm_Wm_line : Room := { frames := 2, cells := 0, slots := 0, locals := 49 }
theorem hd_Wm_line : y_Wm_line.cls ≠ "java/lang/invoke/MethodHandle" ∧ y_Wm_line.cls ≠ "java/lang/invoke/VarHandle" ∧ (parseMethodDescriptor y_Wm_line.desc).map (fun d => d.parameters.length) = some 1 := by decide +kernel
abbrev b_Wm_prepare : ByteArray := prog_8_method_23_code
def y_Wm_prepare : MethodName := ⟨"WardRosterModel", "prepare", "(I)V"⟩
def rm_Wm_prepare : Room := { frames := 0, cells := 0, slots := 0, locals := 0 }
theorem hd_Wm_prepare : y_Wm_prepare.cls ≠ "java/lang/invoke/MethodHandle" ∧ y_Wm_prepare.cls ≠ "java/lang/invoke/VarHandle" ∧ (parseMethodDescriptor y_Wm_prepare.desc).map (fun d => d.parameters.length) = some 1 := by decide +kernel
abbrev b_Wm_weigh : ByteArray := prog_8_method_24_code
def y_Wm_weigh : MethodName := ⟨"WardRosterModel", "weigh", "(III)I"⟩
def rm_Wm_weigh : Room := { frames := 0, cells := 0, slots := 0, locals := 0 }
theorem hd_Wm_weigh : y_Wm_weigh.cls ≠ "java/lang/invoke/MethodHandle" ∧ y_Wm_weigh.cls ≠ "java/lang/invoke/VarHandle" ∧ (parseMethodDescriptor y_Wm_weigh.desc).map (fun d => d.parameters.length) = some 3 := by decide +kernel
abbrev b_Wm_lightest : ByteArray := prog_8_method_25_code
def y_Wm_lightest : MethodName := ⟨"WardRosterModel", "lightest", "(IIII)I"⟩
def rm_Wm_lightest : Room := { frames := 0, cells := 0, slots := 0, locals := 0 }
theorem hd_Wm_lightest : y_Wm_lightest.cls ≠ "java/lang/invoke/MethodHandle" ∧ y_Wm_lightest.cls ≠ "java/lang/invoke/VarHandle" ∧ (parseMethodDescriptor y_Wm_lightest.desc).map (fun d => d.parameters.length) = some 4 := by decide +kernel
abbrev b_Wm_isUsual : ByteArray := prog_8_method_26_code
def y_Wm_isUsual : MethodName := ⟨"WardRosterModel", "isUsual", "(II)Z"⟩
def rm_Wm_isUsual : Room := { frames := 0, cells := 0, slots := 0, locals := 0 }
theorem hd_Wm_isUsual : y_Wm_isUsual.cls ≠ "java/lang/invoke/MethodHandle" ∧ y_Wm_isUsual.cls ≠ "java/lang/invoke/VarHandle" ∧ (parseMethodDescriptor y_Wm_isUsual.desc).map (fun d => d.parameters.length) = some 2 := by decide +kernel
abbrev b_Wm_startState : ByteArray := prog_8_method_28_code
def y_Wm_startState : MethodName := ⟨"WardRosterModel", "startState", "()I"⟩
def rm_Wm_startState : Room := { frames := 0, cells := 0, slots := 0, locals := 0 }
theorem hd_Wm_startState : y_Wm_startState.cls ≠ "java/lang/invoke/MethodHandle" ∧ y_Wm_startState.cls ≠ "java/lang/invoke/VarHandle" ∧ (parseMethodDescriptor y_Wm_startState.desc).map (fun d => d.parameters.length) = some 0 := by decide +kernel
abbrev b_Wm_goBack : ByteArray := prog_8_method_27_code
def y_Wm_goBack : MethodName := ⟨"WardRosterModel", "goBack", "(I)V"⟩
def rm_Wm_goBack : Room := { frames := 1, cells := 0, slots := 0, locals := 34 }
theorem hd_Wm_goBack : y_Wm_goBack.cls ≠ "java/lang/invoke/MethodHandle" ∧ y_Wm_goBack.cls ≠ "java/lang/invoke/VarHandle" ∧ (parseMethodDescriptor y_Wm_goBack.desc).map (fun d => d.parameters.length) = some 1 := by decide +kernel
abbrev b_Wm_find : ByteArray := prog_8_method_29_code
def y_Wm_find : MethodName := ⟨"WardRosterModel", "find", "()I"⟩
def rm_Wm_find : Room := { frames := 2, cells := 0, slots := 0, locals := 59 }
theorem hd_Wm_find : y_Wm_find.cls ≠ "java/lang/invoke/MethodHandle" ∧ y_Wm_find.cls ≠ "java/lang/invoke/VarHandle" ∧ (parseMethodDescriptor y_Wm_find.desc).map (fun d => d.parameters.length) = some 0 := by decide +kernel
abbrev b_Wm_solve : ByteArray := prog_8_method_30_code
def y_Wm_solve : MethodName := ⟨"WardRosterModel", "solve", "()V"⟩
def rm_Wm_solve : Room := { frames := 3, cells := 0, slots := 0, locals := 83 }
theorem hd_Wm_solve : y_Wm_solve.cls ≠ "java/lang/invoke/MethodHandle" ∧ y_Wm_solve.cls ≠ "java/lang/invoke/VarHandle" ∧ (parseMethodDescriptor y_Wm_solve.desc).map (fun d => d.parameters.length) = some 0 := by decide +kernel
abbrev b_Wm_least : ByteArray := prog_8_method_31_code
def y_Wm_least : MethodName := ⟨"WardRosterModel", "least", "()I"⟩
def rm_Wm_least : Room := { frames := 4, cells := 0, slots := 0, locals := 104 }
theorem hd_Wm_least : y_Wm_least.cls ≠ "java/lang/invoke/MethodHandle" ∧ y_Wm_least.cls ≠ "java/lang/invoke/VarHandle" ∧ (parseMethodDescriptor y_Wm_least.desc).map (fun d => d.parameters.length) = some 0 := by decide +kernel
abbrev b_Wm_best : ByteArray := prog_8_method_32_code
def y_Wm_best : MethodName := ⟨"WardRosterModel", "best", "(II)I"⟩
def rm_Wm_best : Room := { frames := 4, cells := 0, slots := 0, locals := 104 }
theorem hd_Wm_best : y_Wm_best.cls ≠ "java/lang/invoke/MethodHandle" ∧ y_Wm_best.cls ≠ "java/lang/invoke/VarHandle" ∧ (parseMethodDescriptor y_Wm_best.desc).map (fun d => d.parameters.length) = some 2 := by decide +kernel
abbrev b_Wm_round : ByteArray := prog_8_method_33_code
def y_Wm_round : MethodName := ⟨"WardRosterModel", "round", "()V"⟩
def rm_Wm_round : Room := { frames := 3, cells := 0, slots := 0, locals := 74 }
theorem hd_Wm_round : y_Wm_round.cls ≠ "java/lang/invoke/MethodHandle" ∧ y_Wm_round.cls ≠ "java/lang/invoke/VarHandle" ∧ (parseMethodDescriptor y_Wm_round.desc).map (fun d => d.parameters.length) = some 0 := by decide +kernel
abbrev b_Wm_raise : ByteArray := prog_8_method_34_code
def y_Wm_raise : MethodName := ⟨"WardRosterModel", "raise", "(I)I"⟩
def rm_Wm_raise : Room := { frames := 4, cells := 0, slots := 0, locals := 98 }
theorem hd_Wm_raise : y_Wm_raise.cls ≠ "java/lang/invoke/MethodHandle" ∧ y_Wm_raise.cls ≠ "java/lang/invoke/VarHandle" ∧ (parseMethodDescriptor y_Wm_raise.desc).map (fun d => d.parameters.length) = some 1 := by decide +kernel
abbrev b_Wm_bound : ByteArray := prog_8_method_35_code
def y_Wm_bound : MethodName := ⟨"WardRosterModel", "bound", "()I"⟩
def rm_Wm_bound : Room := { frames := 0, cells := 0, slots := 0, locals := 0 }
theorem hd_Wm_bound : y_Wm_bound.cls ≠ "java/lang/invoke/MethodHandle" ∧ y_Wm_bound.cls ≠ "java/lang/invoke/VarHandle" ∧ (parseMethodDescriptor y_Wm_bound.desc).map (fun d => d.parameters.length) = some 0 := by decide +kernel
abbrev b_Wm_price : ByteArray := prog_8_method_36_code
def y_Wm_price : MethodName := ⟨"WardRosterModel", "price", "(II)I"⟩
def rm_Wm_price : Room := { frames := 1, cells := 0, slots := 0, locals := 21 }
theorem hd_Wm_price : y_Wm_price.cls ≠ "java/lang/invoke/MethodHandle" ∧ y_Wm_price.cls ≠ "java/lang/invoke/VarHandle" ∧ (parseMethodDescriptor y_Wm_price.desc).map (fun d => d.parameters.length) = some 2 := by decide +kernel
abbrev b_Wm_takeUp : ByteArray := prog_8_method_37_code
def y_Wm_takeUp : MethodName := ⟨"WardRosterModel", "takeUp", "()V"⟩
def rm_Wm_takeUp : Room := { frames := 0, cells := 0, slots := 0, locals := 0 }
theorem hd_Wm_takeUp : y_Wm_takeUp.cls ≠ "java/lang/invoke/MethodHandle" ∧ y_Wm_takeUp.cls ≠ "java/lang/invoke/VarHandle" ∧ (parseMethodDescriptor y_Wm_takeUp.desc).map (fun d => d.parameters.length) = some 0 := by decide +kernel
abbrev b_Wm_adopt : ByteArray := prog_8_method_38_code
def y_Wm_adopt : MethodName := ⟨"WardRosterModel", "adopt", "()I"⟩
def rm_Wm_adopt : Room := { frames := 4, cells := 0, slots := 0, locals := 104 }
theorem hd_Wm_adopt : y_Wm_adopt.cls ≠ "java/lang/invoke/MethodHandle" ∧ y_Wm_adopt.cls ≠ "java/lang/invoke/VarHandle" ∧ (parseMethodDescriptor y_Wm_adopt.desc).map (fun d => d.parameters.length) = some 0 := by decide +kernel
abbrev b_Wm_repair : ByteArray := prog_8_method_39_code
def y_Wm_repair : MethodName := ⟨"WardRosterModel", "repair", "()I"⟩
def rm_Wm_repair : Room := { frames := 3, cells := 0, slots := 0, locals := 83 }
theorem hd_Wm_repair : y_Wm_repair.cls ≠ "java/lang/invoke/MethodHandle" ∧ y_Wm_repair.cls ≠ "java/lang/invoke/VarHandle" ∧ (parseMethodDescriptor y_Wm_repair.desc).map (fun d => d.parameters.length) = some 0 := by decide +kernel
abbrev b_Wm_planned : ByteArray := prog_8_method_40_code
def y_Wm_planned : MethodName := ⟨"WardRosterModel", "planned", "(II)I"⟩
def rm_Wm_planned : Room := { frames := 1, cells := 0, slots := 0, locals := 21 }
theorem hd_Wm_planned : y_Wm_planned.cls ≠ "java/lang/invoke/MethodHandle" ∧ y_Wm_planned.cls ≠ "java/lang/invoke/VarHandle" ∧ (parseMethodDescriptor y_Wm_planned.desc).map (fun d => d.parameters.length) = some 2 := by decide +kernel
abbrev b_Wm_check : ByteArray := prog_8_method_41_code
def y_Wm_check : MethodName := ⟨"WardRosterModel", "check", "()I"⟩
def rm_Wm_check : Room := { frames := 2, cells := 0, slots := 0, locals := 49 }
theorem hd_Wm_check : y_Wm_check.cls ≠ "java/lang/invoke/MethodHandle" ∧ y_Wm_check.cls ≠ "java/lang/invoke/VarHandle" ∧ (parseMethodDescriptor y_Wm_check.desc).map (fun d => d.parameters.length) = some 0 := by decide +kernel
abbrev b_Wr_requireNurse : ByteArray := prog_1_method_25_code
def y_Wr_requireNurse : MethodName := ⟨"WardRoster", "requireNurse", "(I)V"⟩
def rm_Wr_requireNurse : Room := { frames := 0, cells := 0, slots := 0, locals := 0 }
theorem hd_Wr_requireNurse : y_Wr_requireNurse.cls ≠ "java/lang/invoke/MethodHandle" ∧ y_Wr_requireNurse.cls ≠ "java/lang/invoke/VarHandle" ∧ (parseMethodDescriptor y_Wr_requireNurse.desc).map (fun d => d.parameters.length) = some 1 := by decide +kernel
abbrev b_Wr_requireDay : ByteArray := prog_1_method_26_code
def y_Wr_requireDay : MethodName := ⟨"WardRoster", "requireDay", "(I)V"⟩
def rm_Wr_requireDay : Room := { frames := 0, cells := 0, slots := 0, locals := 0 }
theorem hd_Wr_requireDay : y_Wr_requireDay.cls ≠ "java/lang/invoke/MethodHandle" ∧ y_Wr_requireDay.cls ≠ "java/lang/invoke/VarHandle" ∧ (parseMethodDescriptor y_Wr_requireDay.desc).map (fun d => d.parameters.length) = some 1 := by decide +kernel
abbrev b_Wr_requireShift : ByteArray := prog_1_method_27_code
def y_Wr_requireShift : MethodName := ⟨"WardRoster", "requireShift", "(II)V"⟩
def rm_Wr_requireShift : Room := { frames := 0, cells := 0, slots := 0, locals := 0 }
theorem hd_Wr_requireShift : y_Wr_requireShift.cls ≠ "java/lang/invoke/MethodHandle" ∧ y_Wr_requireShift.cls ≠ "java/lang/invoke/VarHandle" ∧ (parseMethodDescriptor y_Wr_requireShift.desc).map (fun d => d.parameters.length) = some 2 := by decide +kernel
abbrev b_Wr_requireValue : ByteArray := prog_1_method_28_code
def y_Wr_requireValue : MethodName := ⟨"WardRoster", "requireValue", "(III)V"⟩
def rm_Wr_requireValue : Room := { frames := 0, cells := 0, slots := 0, locals := 0 }
theorem hd_Wr_requireValue : y_Wr_requireValue.cls ≠ "java/lang/invoke/MethodHandle" ∧ y_Wr_requireValue.cls ≠ "java/lang/invoke/VarHandle" ∧ (parseMethodDescriptor y_Wr_requireValue.desc).map (fun d => d.parameters.length) = some 3 := by decide +kernel
abbrev b_Wr_requirePlan : ByteArray := prog_1_method_30_code
def y_Wr_requirePlan : MethodName := ⟨"WardRoster", "requirePlan", "()V"⟩
def rm_Wr_requirePlan : Room := { frames := 0, cells := 0, slots := 0, locals := 0 }
theorem hd_Wr_requirePlan : y_Wr_requirePlan.cls ≠ "java/lang/invoke/MethodHandle" ∧ y_Wr_requirePlan.cls ≠ "java/lang/invoke/VarHandle" ∧ (parseMethodDescriptor y_Wr_requirePlan.desc).map (fun d => d.parameters.length) = some 0 := by decide +kernel
abbrev b_Wr_requireRoster : ByteArray := prog_1_method_31_code
def y_Wr_requireRoster : MethodName := ⟨"WardRoster", "requireRoster", "(J)V"⟩
def rm_Wr_requireRoster : Room := { frames := 0, cells := 0, slots := 0, locals := 0 }
theorem hd_Wr_requireRoster : y_Wr_requireRoster.cls ≠ "java/lang/invoke/MethodHandle" ∧ y_Wr_requireRoster.cls ≠ "java/lang/invoke/VarHandle" ∧ (parseMethodDescriptor y_Wr_requireRoster.desc).map (fun d => d.parameters.length) = some 1 := by decide +kernel
abbrev b_Wr_requireLines : ByteArray := prog_1_method_29_code
def y_Wr_requireLines : MethodName := ⟨"WardRoster", "requireLines", "()V"⟩
def rm_Wr_requireLines : Room := { frames := 5, cells := 0, slots := 0, locals := 121 }
theorem hd_Wr_requireLines : y_Wr_requireLines.cls ≠ "java/lang/invoke/MethodHandle" ∧ y_Wr_requireLines.cls ≠ "java/lang/invoke/VarHandle" ∧ (parseMethodDescriptor y_Wr_requireLines.desc).map (fun d => d.parameters.length) = some 0 := by decide +kernel
abbrev b_Wr_open : ByteArray := prog_1_method_2_code
def y_Wr_open : MethodName := ⟨"WardRoster", "open", "(I)V"⟩
def rm_Wr_open : Room := { frames := 4, cells := 0, slots := 0, locals := 87 }
theorem hd_Wr_open : y_Wr_open.cls ≠ "java/lang/invoke/MethodHandle" ∧ y_Wr_open.cls ≠ "java/lang/invoke/VarHandle" ∧ (parseMethodDescriptor y_Wr_open.desc).map (fun d => d.parameters.length) = some 1 := by decide +kernel
abbrev b_Wr_contract : ByteArray := prog_1_method_3_code
def y_Wr_contract : MethodName := ⟨"WardRoster", "contract", "(III)V"⟩
def rm_Wr_contract : Room := { frames := 3, cells := 0, slots := 0, locals := 63 }
theorem hd_Wr_contract : y_Wr_contract.cls ≠ "java/lang/invoke/MethodHandle" ∧ y_Wr_contract.cls ≠ "java/lang/invoke/VarHandle" ∧ (parseMethodDescriptor y_Wr_contract.desc).map (fun d => d.parameters.length) = some 3 := by decide +kernel
abbrev b_Wr_before : ByteArray := prog_1_method_4_code
def y_Wr_before : MethodName := ⟨"WardRoster", "before", "(III)V"⟩
def rm_Wr_before : Room := { frames := 3, cells := 0, slots := 0, locals := 63 }
theorem hd_Wr_before : y_Wr_before.cls ≠ "java/lang/invoke/MethodHandle" ∧ y_Wr_before.cls ≠ "java/lang/invoke/VarHandle" ∧ (parseMethodDescriptor y_Wr_before.desc).map (fun d => d.parameters.length) = some 3 := by decide +kernel
abbrev b_Wr_need : ByteArray := prog_1_method_5_code
def y_Wr_need : MethodName := ⟨"WardRoster", "need", "(III)I"⟩
def rm_Wr_need : Room := { frames := 3, cells := 0, slots := 0, locals := 63 }
theorem hd_Wr_need : y_Wr_need.cls ≠ "java/lang/invoke/MethodHandle" ∧ y_Wr_need.cls ≠ "java/lang/invoke/VarHandle" ∧ (parseMethodDescriptor y_Wr_need.desc).map (fun d => d.parameters.length) = some 3 := by decide +kernel
abbrev b_Wr_cost : ByteArray := prog_1_method_6_code
def y_Wr_cost : MethodName := ⟨"WardRoster", "cost", "(IIII)I"⟩
def rm_Wr_cost : Room := { frames := 3, cells := 0, slots := 0, locals := 63 }
theorem hd_Wr_cost : y_Wr_cost.cls ≠ "java/lang/invoke/MethodHandle" ∧ y_Wr_cost.cls ≠ "java/lang/invoke/VarHandle" ∧ (parseMethodDescriptor y_Wr_cost.desc).map (fun d => d.parameters.length) = some 4 := by decide +kernel
abbrev b_Wr_pair : ByteArray := prog_1_method_7_code
def y_Wr_pair : MethodName := ⟨"WardRoster", "pair", "(IIII)I"⟩
def rm_Wr_pair : Room := { frames := 3, cells := 0, slots := 0, locals := 63 }
theorem hd_Wr_pair : y_Wr_pair.cls ≠ "java/lang/invoke/MethodHandle" ∧ y_Wr_pair.cls ≠ "java/lang/invoke/VarHandle" ∧ (parseMethodDescriptor y_Wr_pair.desc).map (fun d => d.parameters.length) = some 4 := by decide +kernel
abbrev b_Wr_fix : ByteArray := prog_1_method_8_code
def y_Wr_fix : MethodName := ⟨"WardRoster", "fix", "(III)I"⟩
def rm_Wr_fix : Room := { frames := 3, cells := 0, slots := 0, locals := 63 }
theorem hd_Wr_fix : y_Wr_fix.cls ≠ "java/lang/invoke/MethodHandle" ∧ y_Wr_fix.cls ≠ "java/lang/invoke/VarHandle" ∧ (parseMethodDescriptor y_Wr_fix.desc).map (fun d => d.parameters.length) = some 3 := by decide +kernel
abbrev b_Wr_lines : ByteArray := prog_1_method_10_code
def y_Wr_lines : MethodName := ⟨"WardRoster", "lines", "(I)I"⟩
def rm_Wr_lines : Room := { frames := 5, cells := 0, slots := 0, locals := 121 }
theorem hd_Wr_lines : y_Wr_lines.cls ≠ "java/lang/invoke/MethodHandle" ∧ y_Wr_lines.cls ≠ "java/lang/invoke/VarHandle" ∧ (parseMethodDescriptor y_Wr_lines.desc).map (fun d => d.parameters.length) = some 1 := by decide +kernel
abbrev b_Wr_line : ByteArray := prog_1_method_11_code
def y_Wr_line : MethodName := ⟨"WardRoster", "line", "(I)I"⟩
def rm_Wr_line : Room := { frames := 5, cells := 0, slots := 0, locals := 121 }
theorem hd_Wr_line : y_Wr_line.cls ≠ "java/lang/invoke/MethodHandle" ∧ y_Wr_line.cls ≠ "java/lang/invoke/VarHandle" ∧ (parseMethodDescriptor y_Wr_line.desc).map (fun d => d.parameters.length) = some 1 := by decide +kernel
abbrev b_Wr_best : ByteArray := prog_1_method_13_code
def y_Wr_best : MethodName := ⟨"WardRoster", "best", "(II)I"⟩
def rm_Wr_best : Room := { frames := 6, cells := 0, slots := 0, locals := 141 }
theorem hd_Wr_best : y_Wr_best.cls ≠ "java/lang/invoke/MethodHandle" ∧ y_Wr_best.cls ≠ "java/lang/invoke/VarHandle" ∧ (parseMethodDescriptor y_Wr_best.desc).map (fun d => d.parameters.length) = some 2 := by decide +kernel
abbrev b_Wr_raise : ByteArray := prog_1_method_14_code
def y_Wr_raise : MethodName := ⟨"WardRoster", "raise", "(I)I"⟩
def rm_Wr_raise : Room := { frames := 6, cells := 0, slots := 0, locals := 142 }
theorem hd_Wr_raise : y_Wr_raise.cls ≠ "java/lang/invoke/MethodHandle" ∧ y_Wr_raise.cls ≠ "java/lang/invoke/VarHandle" ∧ (parseMethodDescriptor y_Wr_raise.desc).map (fun d => d.parameters.length) = some 1 := by decide +kernel
abbrev b_Wr_price : ByteArray := prog_1_method_16_code
def y_Wr_price : MethodName := ⟨"WardRoster", "price", "(II)I"⟩
def rm_Wr_price : Room := { frames := 1, cells := 0, slots := 0, locals := 21 }
theorem hd_Wr_price : y_Wr_price.cls ≠ "java/lang/invoke/MethodHandle" ∧ y_Wr_price.cls ≠ "java/lang/invoke/VarHandle" ∧ (parseMethodDescriptor y_Wr_price.desc).map (fun d => d.parameters.length) = some 2 := by decide +kernel
abbrev b_Wr_adopt : ByteArray := prog_1_method_17_code
def y_Wr_adopt : MethodName := ⟨"WardRoster", "adopt", "()I"⟩
def rm_Wr_adopt : Room := { frames := 6, cells := 0, slots := 0, locals := 141 }
theorem hd_Wr_adopt : y_Wr_adopt.cls ≠ "java/lang/invoke/MethodHandle" ∧ y_Wr_adopt.cls ≠ "java/lang/invoke/VarHandle" ∧ (parseMethodDescriptor y_Wr_adopt.desc).map (fun d => d.parameters.length) = some 0 := by decide +kernel
abbrev b_Wr_repair : ByteArray := prog_1_method_18_code
def y_Wr_repair : MethodName := ⟨"WardRoster", "repair", "()I"⟩
def rm_Wr_repair : Room := { frames := 5, cells := 0, slots := 0, locals := 121 }
theorem hd_Wr_repair : y_Wr_repair.cls ≠ "java/lang/invoke/MethodHandle" ∧ y_Wr_repair.cls ≠ "java/lang/invoke/VarHandle" ∧ (parseMethodDescriptor y_Wr_repair.desc).map (fun d => d.parameters.length) = some 0 := by decide +kernel
abbrev b_Wr_planned : ByteArray := prog_1_method_19_code
def y_Wr_planned : MethodName := ⟨"WardRoster", "planned", "(II)I"⟩
def rm_Wr_planned : Room := { frames := 1, cells := 0, slots := 0, locals := 22 }
theorem hd_Wr_planned : y_Wr_planned.cls ≠ "java/lang/invoke/MethodHandle" ∧ y_Wr_planned.cls ≠ "java/lang/invoke/VarHandle" ∧ (parseMethodDescriptor y_Wr_planned.desc).map (fun d => d.parameters.length) = some 2 := by decide +kernel
abbrev b_Nu_init : ByteArray := prog_3_method_1_code
def y_Nu_init : MethodName := ⟨"WardRoster$Nurse", "<init>", "(I)V"⟩
def rm_Nu_init : Room := { frames := 1, cells := 3, slots := 46, locals := 23 }
theorem hd_Nu_init : y_Nu_init.cls ≠ "java/lang/invoke/MethodHandle" ∧ y_Nu_init.cls ≠ "java/lang/invoke/VarHandle" ∧ (parseMethodDescriptor y_Nu_init.desc).map (fun d => d.parameters.length) = some 1 := by decide +kernel
abbrev b_Wa_init : ByteArray := prog_6_method_1_code
def y_Wa_init : MethodName := ⟨"WardRoster$Ward", "<init>", "()V"⟩
def rm_Wa_init : Room := { frames := 2, cells := 14, slots := 189, locals := 44 }
theorem hd_Wa_init : y_Wa_init.cls ≠ "java/lang/invoke/MethodHandle" ∧ y_Wa_init.cls ≠ "java/lang/invoke/VarHandle" ∧ (parseMethodDescriptor y_Wa_init.desc).map (fun d => d.parameters.length) = some 0 := by decide +kernel
abbrev b_Lw_init : ByteArray := prog_2_method_1_code
def y_Lw_init : MethodName := ⟨"WardRoster$LineWalk", "<init>", "()V"⟩
def rm_Lw_init : Room := { frames := 1, cells := 4, slots := 52, locals := 23 }
theorem hd_Lw_init : y_Lw_init.cls ≠ "java/lang/invoke/MethodHandle" ∧ y_Lw_init.cls ≠ "java/lang/invoke/VarHandle" ∧ (parseMethodDescriptor y_Lw_init.desc).map (fun d => d.parameters.length) = some 0 := by decide +kernel
abbrev b_Rs_init : ByteArray := prog_5_method_1_code
def y_Rs_init : MethodName := ⟨"WardRoster$RosterSearch", "<init>", "()V"⟩
def rm_Rs_init : Room := { frames := 1, cells := 4, slots := 4498, locals := 23 }
theorem hd_Rs_init : y_Rs_init.cls ≠ "java/lang/invoke/MethodHandle" ∧ y_Rs_init.cls ≠ "java/lang/invoke/VarHandle" ∧ (parseMethodDescriptor y_Rs_init.desc).map (fun d => d.parameters.length) = some 0 := by decide +kernel
abbrev b_Pr_init : ByteArray := prog_4_method_1_code
def y_Pr_init : MethodName := ⟨"WardRoster$Pricing", "<init>", "()V"⟩
def rm_Pr_init : Room := { frames := 1, cells := 1, slots := 24, locals := 23 }
theorem hd_Pr_init : y_Pr_init.cls ≠ "java/lang/invoke/MethodHandle" ∧ y_Pr_init.cls ≠ "java/lang/invoke/VarHandle" ∧ (parseMethodDescriptor y_Pr_init.desc).map (fun d => d.parameters.length) = some 0 := by decide +kernel
abbrev b_Wr_init : ByteArray := prog_1_method_1_code
def y_Wr_init : MethodName := ⟨"WardRoster", "<init>", "()V"⟩
def rm_Wr_init : Room := { frames := 4, cells := 28, slots := 4801, locals := 87 }
theorem hd_Wr_init : y_Wr_init.cls ≠ "java/lang/invoke/MethodHandle" ∧ y_Wr_init.cls ≠ "java/lang/invoke/VarHandle" ∧ (parseMethodDescriptor y_Wr_init.desc).map (fun d => d.parameters.length) = some 0 := by decide +kernel
abbrev b_Wm_init : ByteArray := prog_8_method_1_code
def y_Wm_init : MethodName := ⟨"WardRosterModel", "<init>", "()V"⟩
def rm_Wm_init : Room := { frames := 2, cells := 17, slots := 16031, locals := 43 }
theorem hd_Wm_init : y_Wm_init.cls ≠ "java/lang/invoke/MethodHandle" ∧ y_Wm_init.cls ≠ "java/lang/invoke/VarHandle" ∧ (parseMethodDescriptor y_Wm_init.desc).map (fun d => d.parameters.length) = some 0 := by decide +kernel
