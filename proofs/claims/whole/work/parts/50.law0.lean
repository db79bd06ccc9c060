/-! the law: names (printed by wip/gen) -/
abbrev b_La_open : ByteArray := method_3_code
def y_La_open : MethodName := ⟨"WardRosterLaw", "open", "(LWardRoster;I)I"⟩
def rm_La_open : Room := { frames := 8, cells := 1, slots := 6, locals := 125 }
theorem hd_La_open : y_La_open.cls ≠ "java/lang/invoke/MethodHandle" ∧ y_La_open.cls ≠ "java/lang/invoke/VarHandle" ∧ (parseMethodDescriptor y_La_open.desc).map (fun d => d.parameters.length) = some 2 := by decide +kernel
abbrev b_La_contract : ByteArray := method_4_code
def y_La_contract : MethodName := ⟨"WardRosterLaw", "contract", "(LWardRoster;III)I"⟩
def rm_La_contract : Room := { frames := 8, cells := 1, slots := 6, locals := 127 }
theorem hd_La_contract : y_La_contract.cls ≠ "java/lang/invoke/MethodHandle" ∧ y_La_contract.cls ≠ "java/lang/invoke/VarHandle" ∧ (parseMethodDescriptor y_La_contract.desc).map (fun d => d.parameters.length) = some 4 := by decide +kernel
abbrev b_La_before : ByteArray := method_5_code
def y_La_before : MethodName := ⟨"WardRosterLaw", "before", "(LWardRoster;III)I"⟩
def rm_La_before : Room := { frames := 8, cells := 1, slots := 6, locals := 127 }
theorem hd_La_before : y_La_before.cls ≠ "java/lang/invoke/MethodHandle" ∧ y_La_before.cls ≠ "java/lang/invoke/VarHandle" ∧ (parseMethodDescriptor y_La_before.desc).map (fun d => d.parameters.length) = some 4 := by decide +kernel
abbrev b_La_need : ByteArray := method_6_code
def y_La_need : MethodName := ⟨"WardRosterLaw", "need", "(LWardRoster;III[J)I"⟩
def rm_La_need : Room := { frames := 8, cells := 1, slots := 6, locals := 128 }
theorem hd_La_need : y_La_need.cls ≠ "java/lang/invoke/MethodHandle" ∧ y_La_need.cls ≠ "java/lang/invoke/VarHandle" ∧ (parseMethodDescriptor y_La_need.desc).map (fun d => d.parameters.length) = some 5 := by decide +kernel
abbrev b_La_cost : ByteArray := method_7_code
def y_La_cost : MethodName := ⟨"WardRosterLaw", "cost", "(LWardRoster;IIII[J)I"⟩
def rm_La_cost : Room := { frames := 8, cells := 1, slots := 6, locals := 130 }
theorem hd_La_cost : y_La_cost.cls ≠ "java/lang/invoke/MethodHandle" ∧ y_La_cost.cls ≠ "java/lang/invoke/VarHandle" ∧ (parseMethodDescriptor y_La_cost.desc).map (fun d => d.parameters.length) = some 6 := by decide +kernel
abbrev b_La_pair : ByteArray := method_8_code
def y_La_pair : MethodName := ⟨"WardRosterLaw", "pair", "(LWardRoster;IIII[J)I"⟩
def rm_La_pair : Room := { frames := 8, cells := 1, slots := 6, locals := 130 }
theorem hd_La_pair : y_La_pair.cls ≠ "java/lang/invoke/MethodHandle" ∧ y_La_pair.cls ≠ "java/lang/invoke/VarHandle" ∧ (parseMethodDescriptor y_La_pair.desc).map (fun d => d.parameters.length) = some 6 := by decide +kernel
abbrev b_La_fix : ByteArray := method_9_code
def y_La_fix : MethodName := ⟨"WardRosterLaw", "fix", "(LWardRoster;III[J)I"⟩
def rm_La_fix : Room := { frames := 8, cells := 1, slots := 6, locals := 129 }
theorem hd_La_fix : y_La_fix.cls ≠ "java/lang/invoke/MethodHandle" ∧ y_La_fix.cls ≠ "java/lang/invoke/VarHandle" ∧ (parseMethodDescriptor y_La_fix.desc).map (fun d => d.parameters.length) = some 5 := by decide +kernel
abbrev b_La_lines : ByteArray := method_10_code
def y_La_lines : MethodName := ⟨"WardRosterLaw", "lines", "(LWardRoster;I[J)I"⟩
def rm_La_lines : Room := { frames := 8, cells := 1, slots := 6, locals := 142 }
theorem hd_La_lines : y_La_lines.cls ≠ "java/lang/invoke/MethodHandle" ∧ y_La_lines.cls ≠ "java/lang/invoke/VarHandle" ∧ (parseMethodDescriptor y_La_lines.desc).map (fun d => d.parameters.length) = some 3 := by decide +kernel
abbrev b_La_line : ByteArray := method_11_code
def y_La_line : MethodName := ⟨"WardRosterLaw", "line", "(LWardRoster;I[J)I"⟩
def rm_La_line : Room := { frames := 8, cells := 1, slots := 6, locals := 144 }
theorem hd_La_line : y_La_line.cls ≠ "java/lang/invoke/MethodHandle" ∧ y_La_line.cls ≠ "java/lang/invoke/VarHandle" ∧ (parseMethodDescriptor y_La_line.desc).map (fun d => d.parameters.length) = some 3 := by decide +kernel
abbrev b_La_best : ByteArray := method_12_code
def y_La_best : MethodName := ⟨"WardRosterLaw", "best", "(LWardRoster;II[J)I"⟩
def rm_La_best : Room := { frames := 8, cells := 1, slots := 6, locals := 163 }
theorem hd_La_best : y_La_best.cls ≠ "java/lang/invoke/MethodHandle" ∧ y_La_best.cls ≠ "java/lang/invoke/VarHandle" ∧ (parseMethodDescriptor y_La_best.desc).map (fun d => d.parameters.length) = some 4 := by decide +kernel
abbrev b_La_raise : ByteArray := method_13_code
def y_La_raise : MethodName := ⟨"WardRosterLaw", "raise", "(LWardRoster;I[J)I"⟩
def rm_La_raise : Room := { frames := 8, cells := 1, slots := 6, locals := 164 }
theorem hd_La_raise : y_La_raise.cls ≠ "java/lang/invoke/MethodHandle" ∧ y_La_raise.cls ≠ "java/lang/invoke/VarHandle" ∧ (parseMethodDescriptor y_La_raise.desc).map (fun d => d.parameters.length) = some 3 := by decide +kernel
abbrev b_La_price : ByteArray := method_14_code
def y_La_price : MethodName := ⟨"WardRosterLaw", "price", "(LWardRoster;II[J)I"⟩
def rm_La_price : Room := { frames := 8, cells := 1, slots := 6, locals := 125 }
theorem hd_La_price : y_La_price.cls ≠ "java/lang/invoke/MethodHandle" ∧ y_La_price.cls ≠ "java/lang/invoke/VarHandle" ∧ (parseMethodDescriptor y_La_price.desc).map (fun d => d.parameters.length) = some 4 := by decide +kernel
abbrev b_La_adopt : ByteArray := method_15_code
def y_La_adopt : MethodName := ⟨"WardRosterLaw", "adopt", "(LWardRoster;[J)I"⟩
def rm_La_adopt : Room := { frames := 8, cells := 1, slots := 6, locals := 161 }
theorem hd_La_adopt : y_La_adopt.cls ≠ "java/lang/invoke/MethodHandle" ∧ y_La_adopt.cls ≠ "java/lang/invoke/VarHandle" ∧ (parseMethodDescriptor y_La_adopt.desc).map (fun d => d.parameters.length) = some 2 := by decide +kernel
abbrev b_La_repair : ByteArray := method_16_code
def y_La_repair : MethodName := ⟨"WardRosterLaw", "repair", "(LWardRoster;[J)I"⟩
def rm_La_repair : Room := { frames := 8, cells := 1, slots := 6, locals := 143 }
theorem hd_La_repair : y_La_repair.cls ≠ "java/lang/invoke/MethodHandle" ∧ y_La_repair.cls ≠ "java/lang/invoke/VarHandle" ∧ (parseMethodDescriptor y_La_repair.desc).map (fun d => d.parameters.length) = some 2 := by decide +kernel
abbrev b_La_planned : ByteArray := method_17_code
def y_La_planned : MethodName := ⟨"WardRosterLaw", "planned", "(LWardRoster;II[J)I"⟩
def rm_La_planned : Room := { frames := 8, cells := 1, slots := 6, locals := 125 }
theorem hd_La_planned : y_La_planned.cls ≠ "java/lang/invoke/MethodHandle" ∧ y_La_planned.cls ≠ "java/lang/invoke/VarHandle" ∧ (parseMethodDescriptor y_La_planned.desc).map (fun d => d.parameters.length) = some 4 := by decide +kernel
def GLX : List Cond := [.methodLink "WardRosterLaw" 7 y_Wr_open, .instanceMethod y_Wr_open, .selects "WardRoster" y_Wr_open y_Wr_open, .code y_Wr_open b_Wr_open 2 none, .classLink "WardRosterLaw" 13 "java/lang/IllegalArgumentException", .methodLink "WardRosterLaw" 15 y_Wr_contract, .instanceMethod y_Wr_contract, .selects "WardRoster" y_Wr_contract y_Wr_contract, .code y_Wr_contract b_Wr_contract 4 none, .classLink "WardRosterLaw" 19 "java/lang/IndexOutOfBoundsException", .methodLink "WardRosterLaw" 21 y_Wr_before, .instanceMethod y_Wr_before, .selects "WardRoster" y_Wr_before y_Wr_before, .code y_Wr_before b_Wr_before 4 none, .methodLink "WardRosterLaw" 24 y_Wr_need, .instanceMethod y_Wr_need, .selects "WardRoster" y_Wr_need y_Wr_need, .code y_Wr_need b_Wr_need 5 (some .int), .methodLink "WardRosterLaw" 28 y_Wr_cost, .instanceMethod y_Wr_cost, .selects "WardRoster" y_Wr_cost y_Wr_cost, .code y_Wr_cost b_Wr_cost 7 (some .int), .methodLink "WardRosterLaw" 32 y_Wr_pair, .instanceMethod y_Wr_pair, .selects "WardRoster" y_Wr_pair y_Wr_pair, .code y_Wr_pair b_Wr_pair 7 (some .int), .methodLink "WardRosterLaw" 35 y_Wr_fix, .instanceMethod y_Wr_fix, .selects "WardRoster" y_Wr_fix y_Wr_fix, .code y_Wr_fix b_Wr_fix 6 (some .int), .methodLink "WardRosterLaw" 38 y_Wr_lines, .instanceMethod y_Wr_lines, .selects "WardRoster" y_Wr_lines y_Wr_lines, .code y_Wr_lines b_Wr_lines 2 (some .int), .methodLink "WardRosterLaw" 42 y_Wr_line, .instanceMethod y_Wr_line, .selects "WardRoster" y_Wr_line y_Wr_line, .code y_Wr_line b_Wr_line 4 (some .int), .methodLink "WardRosterLaw" 45 y_Wr_best, .instanceMethod y_Wr_best, .selects "WardRoster" y_Wr_best y_Wr_best, .code y_Wr_best b_Wr_best 3 (some .int), .classLink "WardRosterLaw" 49 "java/util/NoSuchElementException", .methodLink "WardRosterLaw" 51 y_Wr_raise, .instanceMethod y_Wr_raise, .selects "WardRoster" y_Wr_raise y_Wr_raise, .code y_Wr_raise b_Wr_raise 3 (some .int), .classLink "WardRosterLaw" 54 "java/lang/IllegalStateException", .methodLink "WardRosterLaw" 56 y_Wr_price, .instanceMethod y_Wr_price, .selects "WardRoster" y_Wr_price y_Wr_price, .code y_Wr_price b_Wr_price 3 (some .int), .methodLink "WardRosterLaw" 59 y_Wr_adopt, .instanceMethod y_Wr_adopt, .selects "WardRoster" y_Wr_adopt y_Wr_adopt, .code y_Wr_adopt b_Wr_adopt 1 (some .int), .methodLink "WardRosterLaw" 63 y_Wr_repair, .instanceMethod y_Wr_repair, .selects "WardRoster" y_Wr_repair y_Wr_repair, .code y_Wr_repair b_Wr_repair 3 (some .int), .methodLink "WardRosterLaw" 66 y_Wr_planned, .instanceMethod y_Wr_planned, .selects "WardRoster" y_Wr_planned y_Wr_planned, .code y_Wr_planned b_Wr_planned 3 (some .int), .methodLink "WardRosterLaw" 73 y_La_open, .static y_La_open, .initialized "WardRosterLaw", .codeWith y_La_open b_La_open 3 (some .int) [(0, 5, 8, 13)], .methodLink "WardRosterLaw" 78 y_Wm_open, .instanceMethod y_Wm_open, .selects "WardRosterModel" y_Wm_open y_Wm_open, .code y_Wm_open b_Wm_open 2 none, .methodLink "WardRosterLaw" 79 y_Wm_thrown, .instanceMethod y_Wm_thrown, .selects "WardRosterModel" y_Wm_thrown y_Wm_thrown, .code y_Wm_thrown b_Wm_thrown 1 (some .int), .methodLink "WardRosterLaw" 82 y_La_contract, .static y_La_contract, .codeWith y_La_contract b_La_contract 5 (some .int) [(0, 7, 10, 19), (0, 7, 14, 13)], .methodLink "WardRosterLaw" 85 y_Wm_contract, .instanceMethod y_Wm_contract, .selects "WardRosterModel" y_Wm_contract y_Wm_contract, .code y_Wm_contract b_Wm_contract 4 none, .methodLink "WardRosterLaw" 86 y_La_before, .static y_La_before, .codeWith y_La_before b_La_before 5 (some .int) [(0, 7, 10, 19), (0, 7, 14, 13)], .methodLink "WardRosterLaw" 88 y_Wm_before, .instanceMethod y_Wm_before, .selects "WardRosterModel" y_Wm_before y_Wm_before, .code y_Wm_before b_Wm_before 5 none, .methodLink "WardRosterLaw" 89 y_La_need, .static y_La_need, .codeWith y_La_need b_La_need 6 (some .int) [(0, 12, 15, 19), (0, 12, 19, 13)], .methodLink "WardRosterLaw" 92 y_Wm_need, .instanceMethod y_Wm_need, .selects "WardRosterModel" y_Wm_need y_Wm_need, .code y_Wm_need b_Wm_need 5 (some .int), .methodLink "WardRosterLaw" 93 y_La_cost, .static y_La_cost, .codeWith y_La_cost b_La_cost 7 (some .int) [(0, 14, 17, 19), (0, 14, 21, 13)], .methodLink "WardRosterLaw" 96 y_Wm_cost, .instanceMethod y_Wm_cost, .selects "WardRosterModel" y_Wm_cost y_Wm_cost, .code y_Wm_cost b_Wm_cost 7 (some .int), .methodLink "WardRosterLaw" 97 y_La_pair, .static y_La_pair, .codeWith y_La_pair b_La_pair 7 (some .int) [(0, 14, 17, 19), (0, 14, 21, 13)], .methodLink "WardRosterLaw" 99 y_Wm_pair, .instanceMethod y_Wm_pair, .selects "WardRosterModel" y_Wm_pair y_Wm_pair, .code y_Wm_pair b_Wm_pair 7 (some .int), .methodLink "WardRosterLaw" 100 y_La_fix, .static y_La_fix, .codeWith y_La_fix b_La_fix 6 (some .int) [(0, 12, 15, 19), (0, 12, 19, 13)], .methodLink "WardRosterLaw" 102 y_Wm_fix, .instanceMethod y_Wm_fix, .selects "WardRosterModel" y_Wm_fix y_Wm_fix, .code y_Wm_fix b_Wm_fix 5 (some .int), .methodLink "WardRosterLaw" 103 y_Wr_days, .instanceMethod y_Wr_days, .selects "WardRoster" y_Wr_days y_Wr_days, .code y_Wr_days b_Wr_days 1 (some .int), .methodLink "WardRosterLaw" 106 y_Wm_days, .instanceMethod y_Wm_days, .selects "WardRosterModel" y_Wm_days y_Wm_days, .code y_Wm_days b_Wm_days 1 (some .int), .methodLink "WardRosterLaw" 107 y_La_lines, .static y_La_lines, .codeWith y_La_lines b_La_lines 4 (some .int) [(0, 9, 12, 19)], .methodLink "WardRosterLaw" 110 y_Wm_lines, .instanceMethod y_Wm_lines, .selects "WardRosterModel" y_Wm_lines y_Wm_lines, .code y_Wm_lines b_Wm_lines 4 (some .int), .methodLink "WardRosterLaw" 111 y_La_line, .static y_La_line, .codeWith y_La_line b_La_line 4 (some .int) [(0, 9, 12, 19)], .methodLink "WardRosterLaw" 113 y_Wm_line, .instanceMethod y_Wm_line, .selects "WardRosterModel" y_Wm_line y_Wm_line, .code y_Wm_line b_Wm_line 4 (some .int), .methodLink "WardRosterLaw" 114 y_Wr_least, .instanceMethod y_Wr_least, .selects "WardRoster" y_Wr_least y_Wr_least, .code y_Wr_least b_Wr_least 1 (some .int), .methodLink "WardRosterLaw" 117 y_Wm_least, .instanceMethod y_Wm_least, .selects "WardRosterModel" y_Wm_least y_Wm_least, .code y_Wm_least b_Wm_least 1 (some .int), .methodLink "WardRosterLaw" 118 y_La_best, .static y_La_best, .codeWith y_La_best b_La_best 5 (some .int) [(0, 10, 13, 19), (0, 10, 17, 49)], .methodLink "WardRosterLaw" 121 y_Wm_best, .instanceMethod y_Wm_best, .selects "WardRosterModel" y_Wm_best y_Wm_best, .code y_Wm_best b_Wm_best 3 (some .int), .methodLink "WardRosterLaw" 122 y_La_raise, .static y_La_raise, .codeWith y_La_raise b_La_raise 4 (some .int) [(0, 9, 12, 13), (0, 9, 15, 54)], .methodLink "WardRosterLaw" 124 y_Wm_raise, .instanceMethod y_Wm_raise, .selects "WardRosterModel" y_Wm_raise y_Wm_raise, .code y_Wm_raise b_Wm_raise 3 (some .int), .methodLink "WardRosterLaw" 125 y_Wr_bound, .instanceMethod y_Wr_bound, .selects "WardRoster" y_Wr_bound y_Wr_bound, .code y_Wr_bound b_Wr_bound 1 (some .int), .methodLink "WardRosterLaw" 128 y_Wm_bound, .instanceMethod y_Wm_bound, .selects "WardRosterModel" y_Wm_bound y_Wm_bound, .code y_Wm_bound b_Wm_bound 1 (some .int), .methodLink "WardRosterLaw" 129 y_La_price, .static y_La_price, .codeWith y_La_price b_La_price 5 (some .int) [(0, 10, 13, 19)], .methodLink "WardRosterLaw" 131 y_Wm_price, .instanceMethod y_Wm_price, .selects "WardRosterModel" y_Wm_price y_Wm_price, .code y_Wm_price b_Wm_price 3 (some .int), .methodLink "WardRosterLaw" 132 y_La_adopt, .static y_La_adopt, .codeWith y_La_adopt b_La_adopt 3 (some .int) [(0, 8, 11, 49)], .methodLink "WardRosterLaw" 135 y_Wm_adopt, .instanceMethod y_Wm_adopt, .selects "WardRosterModel" y_Wm_adopt y_Wm_adopt, .code y_Wm_adopt b_Wm_adopt 2 (some .int), .methodLink "WardRosterLaw" 136 y_La_repair, .static y_La_repair, .codeWith y_La_repair b_La_repair 3 (some .int) [(0, 8, 11, 54), (0, 8, 14, 49)], .methodLink "WardRosterLaw" 138 y_Wm_repair, .instanceMethod y_Wm_repair, .selects "WardRosterModel" y_Wm_repair y_Wm_repair, .code y_Wm_repair b_Wm_repair 2 (some .int), .methodLink "WardRosterLaw" 139 y_La_planned, .static y_La_planned, .codeWith y_La_planned b_La_planned 5 (some .int) [(0, 10, 13, 19)], .methodLink "WardRosterLaw" 141 y_Wm_planned, .instanceMethod y_Wm_planned, .selects "WardRosterModel" y_Wm_planned y_Wm_planned, .code y_Wm_planned b_Wm_planned 3 (some .int), .methodLink "WardRosterLaw" 142 y_Wr_check, .instanceMethod y_Wr_check, .selects "WardRoster" y_Wr_check y_Wr_check, .code y_Wr_check b_Wr_check 3 (some .int), .methodLink "WardRosterLaw" 145 y_Wm_check, .instanceMethod y_Wm_check, .selects "WardRosterModel" y_Wm_check y_Wm_check, .code y_Wm_check b_Wm_check 5 (some .int)]
theorem GLX_all : GLX.all goodWord = true := by decide +kernel
/-! the law's own level: its words, its calls -/
def GL : List Cond := GLX ++ GW
theorem gl_of {w : Cond} (h : w ∈ GW) : w ∈ GL := List.mem_append_right _ h
theorem GL_good : ∀ w ∈ GL, (w.onTables && w.keeps) = true ∨ ∃ ty, w = .arrayClass ty := fun w h => (List.mem_append.mp h).elim (fun h => good_of_word (List.all_eq_true.mp GLX_all w h)) (GW_good w)
theorem gdL {y : MethodName} {b : ByteArray} {n : Nat} {r : Option FieldType} (h : Cond.code y b n r ∈ GL) : GoodIn GL (.code y b n r :: GW) := fun w hw => by
  rcases List.mem_cons.mp hw with rfl | hw
  · exact ⟨h, GL_good _ h⟩
  · exact ⟨gl_of hw, GW_good _ hw⟩
theorem gdLV {y : MethodName} {b : ByteArray} {n ix : Nat} {r : Option FieldType} {own C : String} (h1 : Cond.methodLink own ix y ∈ GL) (h2 : Cond.instanceMethod y ∈ GL) (h3 : Cond.selects C y y ∈ GL) (h4 : Cond.initialized C ∈ GL) (h : Cond.code y b n r ∈ GL) : GoodIn GL (wsV own ix C y (.code y b n r :: GW)) := fun w hw => by
  rcases List.mem_append.mp hw with hw | hw
  · simp only [List.mem_cons, List.not_mem_nil, or_false] at hw
    rcases hw with rfl | rfl | rfl | rfl
    · exact ⟨h1, GL_good _ h1⟩
    · exact ⟨h2, GL_good _ h2⟩
    · exact ⟨h3, GL_good _ h3⟩
    · exact ⟨h4, GL_good _ h4⟩
  · exact gdL h w hw
theorem gdH {y : MethodName} {b : ByteArray} {n : Nat} {r : Option FieldType} {hh : List (Nat × Nat × Nat × Nat)} (h : Cond.codeWith y b n r hh ∈ GL) : GoodIn GL (.codeWith y b n r hh :: GL) := fun w hw => by
  rcases List.mem_cons.mp hw with rfl | hw
  · exact ⟨h, GL_good _ h⟩
  · exact ⟨hw, GL_good _ hw⟩
def CxL (p : Program) (s : State) (m : MethodId) (args : Array Value) (c : Code) (cc : ByteArray) (nL : Nat) (own : String) (D : va_G) (cI cJ cZ cN : ClassId) : Prop :=
  p.tables.exec = Jvm.exec ∧ c.code = cc ∧ c.maxLocals = nL ∧ s.vm.findClass own = some m.cls ∧ (∀ w ∈ GL, w.before args s = true) ∧ va_K D classes (tysW cI cJ cZ cN) s ∧ ∀ w ∈ NWL, va_Nw w s
/-- which exceptions are not of which classes -/
def KN (U : State) : Prop := va_Nc (xn 2) (xn 1) U ∧ va_Nc (xn 4) (xn 1) U ∧ va_Nc (xn 3) (xn 2) U ∧ va_Nc (xn 4) (xn 3) U
theorem KN.moved {u U : State} (hvm : u.vm.Alike U.vm) (h : KN u) : KN U := ⟨h.1.moved hvm, h.2.1.moved hvm, h.2.2.1.moved hvm, h.2.2.2.moved hvm⟩
def CH_i (l : Launch) (y : MethodName) (ws : List Cond) (rm : Room) (as : List Value) (D : va_G) (cI cJ cZ cN : ClassId) (wc : va_W) (P1 : Int32 → va_W → Prop) : Prop :=
  ∀ sz : Nat, Met l y ws rm (va_Pc as (fun U => U.heap.size = sz ∧ va_P D classes wc U.heap ∧ KK D cI cJ cZ cN U ∧ va_D (fun _ => True) wc ∧ ZZ (va_A wc sz) U U.heap ∧ KT U ∧ KN U)) (va_Qi P1 (fun w1 t => va_P D classes w1 t.heap ∧ va_D (va_A wc sz) w1) (va_A wc sz)) rm.cells rm.slots (va_A wc sz)
theorem preSH {s : State} {H : Heap} {D : va_G} {cI cJ cZ cN : ClassId} {wc : va_W} {As : List Value} {A : Nat → Prop} {locs : List Loc} (hK : va_K D classes (tysW cI cJ cZ cN) s) (hN : ∀ w ∈ NWL, va_Nw w s) (hP : va_P D classes wc H) (hD : va_D A wc) (hZ : ZZ A s s.heap) (hS : va_S A s.heap H locs) (hF : ∀ q, va_A wc H.size q → A q) (hT : KT s) (hC : KN s) :
    PreS s H (va_Pc As (fun U => U.heap.size = H.size ∧ va_P D classes wc U.heap ∧ KK D cI cJ cZ cN U ∧ va_D (fun _ => True) wc ∧ ZZ (va_A wc H.size) U U.heap ∧ KT U ∧ KN U)) As :=
  ⟨fun _ U g mk q => ⟨q.1, q.2.1, q.2.2.1, KK.same (s := U) rfl q.2.2.2.1, q.2.2.2.2.1, q.2.2.2.2.2.1.moved (Vm.Alike.refl U.vm), KT.same (s := U) rfl q.2.2.2.2.2.2.1, q.2.2.2.2.2.2.2.moved (Vm.Alike.refl U.vm)⟩,
   fun _ hU hW => ⟨rfl, by rw [hU], by rw [hU]; exact hP, KK.warm hW ⟨hK, hN⟩, hD.weaken (fun _ _ _ _ => trivial), by rw [hU]; exact ((hZ.kept hS.2.1).narrow hF).moved hW.alike, hT.warm hW, hC.moved hW.alike⟩⟩
theorem la_tab {p : Program} {l : Launch} {y : MethodName} {S : Spec} {cc bytes : ByteArray} {maxL maxL' : Nat} {ret ret' : Option FieldType} {e : Env} {s s₁ : State} {m : MethodId} {args : Array Value} {below : List Frame} {meth : Method} {c : Code} {hh : List (Nat × Nat × Nat × Nat)}
    (B : BodyLoose p l y S cc maxL ret e s m args below meth c s₁) (h : (Cond.codeWith y bytes maxL' ret' hh).before args s = true) : c.exceptionTable.toList = tableOf hh := by
  obtain ⟨m9, meth9, c9, hn9, h1, h2, -, -, h6, -⟩ := Cond.codeWith_spec h
  cases Option.some.inj (hn9.symm.trans B.named)
  cases Option.some.inj (h1.symm.trans B.method)
  cases Option.some.inj (h2.symm.trans (Stand.of_body B).code)
  rw [← h6, table_eq]
section LAR
variable {p : Program} {l : Launch} {e : Env} {R : Room} {s : State} {m : MethodId} {args : Array Value} {below : List Frame} {meth : Method} {c : Code} {H : Heap} {locs : List Loc} {cells slots : Nat}
variable {y : MethodName} {bytes cc : ByteArray} {maxL nL mc ms n index : Nat} {ret : Option FieldType} {hh : List (Nat × Nat × Nat × Nat)} {ws ws' : List Cond} {rm : Room} {Pc : Array Value → State → Prop} {Qc : Array Value → State → Outcome → State → Prop} {free : Addr → Prop} {Ts : List Cond} {own : String} {As rest : List Value} {g : JFrame}
/-- a static call of a method that has handlers -/
theorem la_run (S : CallFix p m c cc nL s args Ts own) (hM : Met l y ws rm Pc Qc mc ms free) (hrc : rm.cells = mc) (hrs : rm.slots = ms) (hG : GoodIn Ts ws) (hw : ws = Cond.codeWith y bytes maxL ret hh :: ws') (hlink : (Cond.methodLink own index y).before args s = true) (hstat : (Cond.static y).before args s = true) (hini : (Cond.initialized y.cls).before args s = true)
    (hd : y.cls ≠ "java/lang/invoke/MethodHandle" ∧ y.cls ≠ "java/lang/invoke/VarHandle" ∧ (parseMethodDescriptor y.desc).map (fun d => d.parameters.length) = some n) (hR : rm.frames + 1 ≤ R.frames ∧ 8 + (maxL + 11) + rm.locals ≤ R.locals) (hp : PreS s H Pc As)
    (hg : g.method = m) (hn : As.length = n) (hsize : g.locals.size = nL) (hstack : g.stack = As.reverse ++ rest) (hW : 2 * g.monitorRoom + (rest.map fun v => v.category).sum ≤ 8) (hdg : decode cc g.pc = .ok (.invokestatic index, 3)) (hf : cells + mc ≤ R.cells ∧ slots + ms ≤ R.slots) :
    va_Run p l e R s m args below meth c H locs cells slots mc ms g rest (Qc As.toArray) (free) := by
  obtain ⟨hx, hb, hml, ho, hts⟩ := S
  have hcw : Cond.codeWith y bytes maxL ret hh ∈ ws := by rw [hw]; exact List.mem_cons_self
  have hcode : (Cond.codeWith y bytes maxL ret hh).before args s = true := hts _ (hG _ hcw).1
  have hK : Back l R p e below s args y 3 8 (PreOf R mc ms Pc) (PostOf Qc mc ms free) := va_backW (hh := hh) (bytes := bytes) (maxL := maxL) (ret := ret) hM hp.1 hrc hrs hR.1 hR.2 (pay_in hts hG) hcw (fun a' U hW => word_at hW (Or.inl rfl) hini)
  intro T hT X
  obtain ⟨mk, methM, cM, hnamed, hmethM, -, -, -, -, -, -, hsigM⟩ := Cond.codeWith_spec hcode
  have hstatic : methM.isStatic = true := Cond.static_spec hnamed hmethM hstat
  obtain ⟨kP, hkP, -⟩ := className_of_methodNamed hnamed
  have hinitP : kP.init = .initialized := Cond.initialized_spec (findClass_of_methodNamed hnamed) hkP hini
  have hdg' : decode c.code g.pc = .ok (.invokestatic index, 3) := by rw [hb]; exact hdg
  have hlen : As.length = methM.sig.parameters.length := by
    have h2 := hd.2.2
    rw [hsigM] at h2
    exact hn.trans (Option.some.inj h2).symm
  obtain ⟨vm₁, X₁, hstep₁⟩ := X.invokestatic hx ho hlink hnamed hmethM hstatic hkP hinitP ⟨hd.1, hd.2.1⟩ (g := g) hg (argsL := As) (rest := rest) hlen hstack hdg'
  obtain ⟨v, ⟨U', l2, c2, s2⟩, X', hpost, hsteps⟩ := hK m meth c ⟨T.setVm vm₁, locs, cells, slots⟩ { g with stack := rest } (.invokestatic index) mk As.toArray X₁ hg (hsize.trans hml.symm) hdg' hW (X₁.named hnamed) ⟨hf.1, hf.2, hp.2 (T.setVm vm₁) hT X₁.warmed⟩
  obtain ⟨g', mk', t, L, e1, e2, hq, h1, hL, h2, h3⟩ := hpost
  dsimp only [Pt.U, Pt.locs, Pt.cells, Pt.slots] at X' e1 e2 h1 h2 h3 hsteps
  subst h1; subst h2; subst h3
  exact ⟨v, (T.setVm vm₁).calling g' mk' As.toArray, t, U', L, hT, X', hL, e1, e2, hq, fun target h => hstep₁ _ fun acts => by rw [doInvoke_state]; exact hsteps.trans h⟩
end LAR
theorem gl_0 : (.methodLink "WardRosterLaw" 7 y_Wr_open : Cond) ∈ GL := List.mem_append_left _ (List.mem_of_getElem? (i := 0) rfl)
theorem gl_1 : (.instanceMethod y_Wr_open : Cond) ∈ GL := List.mem_append_left _ (List.mem_of_getElem? (i := 1) rfl)
theorem gl_2 : (.selects "WardRoster" y_Wr_open y_Wr_open : Cond) ∈ GL := List.mem_append_left _ (List.mem_of_getElem? (i := 2) rfl)
theorem gl_3 : (.code y_Wr_open b_Wr_open 2 none : Cond) ∈ GL := List.mem_append_left _ (List.mem_of_getElem? (i := 3) rfl)
theorem gl_4 : (.classLink "WardRosterLaw" 13 "java/lang/IllegalArgumentException" : Cond) ∈ GL := List.mem_append_left _ (List.mem_of_getElem? (i := 4) rfl)
theorem gl_5 : (.methodLink "WardRosterLaw" 15 y_Wr_contract : Cond) ∈ GL := List.mem_append_left _ (List.mem_of_getElem? (i := 5) rfl)
theorem gl_6 : (.instanceMethod y_Wr_contract : Cond) ∈ GL := List.mem_append_left _ (List.mem_of_getElem? (i := 6) rfl)
theorem gl_7 : (.selects "WardRoster" y_Wr_contract y_Wr_contract : Cond) ∈ GL := List.mem_append_left _ (List.mem_of_getElem? (i := 7) rfl)
theorem gl_8 : (.code y_Wr_contract b_Wr_contract 4 none : Cond) ∈ GL := List.mem_append_left _ (List.mem_of_getElem? (i := 8) rfl)
theorem gl_9 : (.classLink "WardRosterLaw" 19 "java/lang/IndexOutOfBoundsException" : Cond) ∈ GL := List.mem_append_left _ (List.mem_of_getElem? (i := 9) rfl)
theorem gl_10 : (.methodLink "WardRosterLaw" 21 y_Wr_before : Cond) ∈ GL := List.mem_append_left _ (List.mem_of_getElem? (i := 10) rfl)
theorem gl_11 : (.instanceMethod y_Wr_before : Cond) ∈ GL := List.mem_append_left _ (List.mem_of_getElem? (i := 11) rfl)
theorem gl_12 : (.selects "WardRoster" y_Wr_before y_Wr_before : Cond) ∈ GL := List.mem_append_left _ (List.mem_of_getElem? (i := 12) rfl)
theorem gl_13 : (.code y_Wr_before b_Wr_before 4 none : Cond) ∈ GL := List.mem_append_left _ (List.mem_of_getElem? (i := 13) rfl)
theorem gl_14 : (.methodLink "WardRosterLaw" 24 y_Wr_need : Cond) ∈ GL := List.mem_append_left _ (List.mem_of_getElem? (i := 14) rfl)
theorem gl_15 : (.instanceMethod y_Wr_need : Cond) ∈ GL := List.mem_append_left _ (List.mem_of_getElem? (i := 15) rfl)
theorem gl_16 : (.selects "WardRoster" y_Wr_need y_Wr_need : Cond) ∈ GL := List.mem_append_left _ (List.mem_of_getElem? (i := 16) rfl)
theorem gl_17 : (.code y_Wr_need b_Wr_need 5 (some .int) : Cond) ∈ GL := List.mem_append_left _ (List.mem_of_getElem? (i := 17) rfl)
theorem gl_18 : (.methodLink "WardRosterLaw" 28 y_Wr_cost : Cond) ∈ GL := List.mem_append_left _ (List.mem_of_getElem? (i := 18) rfl)
theorem gl_19 : (.instanceMethod y_Wr_cost : Cond) ∈ GL := List.mem_append_left _ (List.mem_of_getElem? (i := 19) rfl)
theorem gl_20 : (.selects "WardRoster" y_Wr_cost y_Wr_cost : Cond) ∈ GL := List.mem_append_left _ (List.mem_of_getElem? (i := 20) rfl)
theorem gl_21 : (.code y_Wr_cost b_Wr_cost 7 (some .int) : Cond) ∈ GL := List.mem_append_left _ (List.mem_of_getElem? (i := 21) rfl)
theorem gl_22 : (.methodLink "WardRosterLaw" 32 y_Wr_pair : Cond) ∈ GL := List.mem_append_left _ (List.mem_of_getElem? (i := 22) rfl)
theorem gl_23 : (.instanceMethod y_Wr_pair : Cond) ∈ GL := List.mem_append_left _ (List.mem_of_getElem? (i := 23) rfl)
theorem gl_24 : (.selects "WardRoster" y_Wr_pair y_Wr_pair : Cond) ∈ GL := List.mem_append_left _ (List.mem_of_getElem? (i := 24) rfl)
theorem gl_25 : (.code y_Wr_pair b_Wr_pair 7 (some .int) : Cond) ∈ GL := List.mem_append_left _ (List.mem_of_getElem? (i := 25) rfl)
theorem gl_26 : (.methodLink "WardRosterLaw" 35 y_Wr_fix : Cond) ∈ GL := List.mem_append_left _ (List.mem_of_getElem? (i := 26) rfl)
theorem gl_27 : (.instanceMethod y_Wr_fix : Cond) ∈ GL := List.mem_append_left _ (List.mem_of_getElem? (i := 27) rfl)
theorem gl_28 : (.selects "WardRoster" y_Wr_fix y_Wr_fix : Cond) ∈ GL := List.mem_append_left _ (List.mem_of_getElem? (i := 28) rfl)
theorem gl_29 : (.code y_Wr_fix b_Wr_fix 6 (some .int) : Cond) ∈ GL := List.mem_append_left _ (List.mem_of_getElem? (i := 29) rfl)
theorem gl_30 : (.methodLink "WardRosterLaw" 38 y_Wr_lines : Cond) ∈ GL := List.mem_append_left _ (List.mem_of_getElem? (i := 30) rfl)
theorem gl_31 : (.instanceMethod y_Wr_lines : Cond) ∈ GL := List.mem_append_left _ (List.mem_of_getElem? (i := 31) rfl)
theorem gl_32 : (.selects "WardRoster" y_Wr_lines y_Wr_lines : Cond) ∈ GL := List.mem_append_left _ (List.mem_of_getElem? (i := 32) rfl)
theorem gl_33 : (.code y_Wr_lines b_Wr_lines 2 (some .int) : Cond) ∈ GL := List.mem_append_left _ (List.mem_of_getElem? (i := 33) rfl)
theorem gl_34 : (.methodLink "WardRosterLaw" 42 y_Wr_line : Cond) ∈ GL := List.mem_append_left _ (List.mem_of_getElem? (i := 34) rfl)
theorem gl_35 : (.instanceMethod y_Wr_line : Cond) ∈ GL := List.mem_append_left _ (List.mem_of_getElem? (i := 35) rfl)
theorem gl_36 : (.selects "WardRoster" y_Wr_line y_Wr_line : Cond) ∈ GL := List.mem_append_left _ (List.mem_of_getElem? (i := 36) rfl)
theorem gl_37 : (.code y_Wr_line b_Wr_line 4 (some .int) : Cond) ∈ GL := List.mem_append_left _ (List.mem_of_getElem? (i := 37) rfl)
theorem gl_38 : (.methodLink "WardRosterLaw" 45 y_Wr_best : Cond) ∈ GL := List.mem_append_left _ (List.mem_of_getElem? (i := 38) rfl)
theorem gl_39 : (.instanceMethod y_Wr_best : Cond) ∈ GL := List.mem_append_left _ (List.mem_of_getElem? (i := 39) rfl)
theorem gl_40 : (.selects "WardRoster" y_Wr_best y_Wr_best : Cond) ∈ GL := List.mem_append_left _ (List.mem_of_getElem? (i := 40) rfl)
theorem gl_41 : (.code y_Wr_best b_Wr_best 3 (some .int) : Cond) ∈ GL := List.mem_append_left _ (List.mem_of_getElem? (i := 41) rfl)
theorem gl_42 : (.classLink "WardRosterLaw" 49 "java/util/NoSuchElementException" : Cond) ∈ GL := List.mem_append_left _ (List.mem_of_getElem? (i := 42) rfl)
theorem gl_43 : (.methodLink "WardRosterLaw" 51 y_Wr_raise : Cond) ∈ GL := List.mem_append_left _ (List.mem_of_getElem? (i := 43) rfl)
theorem gl_44 : (.instanceMethod y_Wr_raise : Cond) ∈ GL := List.mem_append_left _ (List.mem_of_getElem? (i := 44) rfl)
theorem gl_45 : (.selects "WardRoster" y_Wr_raise y_Wr_raise : Cond) ∈ GL := List.mem_append_left _ (List.mem_of_getElem? (i := 45) rfl)
theorem gl_46 : (.code y_Wr_raise b_Wr_raise 3 (some .int) : Cond) ∈ GL := List.mem_append_left _ (List.mem_of_getElem? (i := 46) rfl)
theorem gl_47 : (.classLink "WardRosterLaw" 54 "java/lang/IllegalStateException" : Cond) ∈ GL := List.mem_append_left _ (List.mem_of_getElem? (i := 47) rfl)
theorem gl_48 : (.methodLink "WardRosterLaw" 56 y_Wr_price : Cond) ∈ GL := List.mem_append_left _ (List.mem_of_getElem? (i := 48) rfl)
theorem gl_49 : (.instanceMethod y_Wr_price : Cond) ∈ GL := List.mem_append_left _ (List.mem_of_getElem? (i := 49) rfl)
theorem gl_50 : (.selects "WardRoster" y_Wr_price y_Wr_price : Cond) ∈ GL := List.mem_append_left _ (List.mem_of_getElem? (i := 50) rfl)
theorem gl_51 : (.code y_Wr_price b_Wr_price 3 (some .int) : Cond) ∈ GL := List.mem_append_left _ (List.mem_of_getElem? (i := 51) rfl)
theorem gl_52 : (.methodLink "WardRosterLaw" 59 y_Wr_adopt : Cond) ∈ GL := List.mem_append_left _ (List.mem_of_getElem? (i := 52) rfl)
theorem gl_53 : (.instanceMethod y_Wr_adopt : Cond) ∈ GL := List.mem_append_left _ (List.mem_of_getElem? (i := 53) rfl)
theorem gl_54 : (.selects "WardRoster" y_Wr_adopt y_Wr_adopt : Cond) ∈ GL := List.mem_append_left _ (List.mem_of_getElem? (i := 54) rfl)
theorem gl_55 : (.code y_Wr_adopt b_Wr_adopt 1 (some .int) : Cond) ∈ GL := List.mem_append_left _ (List.mem_of_getElem? (i := 55) rfl)
theorem gl_56 : (.methodLink "WardRosterLaw" 63 y_Wr_repair : Cond) ∈ GL := List.mem_append_left _ (List.mem_of_getElem? (i := 56) rfl)
theorem gl_57 : (.instanceMethod y_Wr_repair : Cond) ∈ GL := List.mem_append_left _ (List.mem_of_getElem? (i := 57) rfl)
theorem gl_58 : (.selects "WardRoster" y_Wr_repair y_Wr_repair : Cond) ∈ GL := List.mem_append_left _ (List.mem_of_getElem? (i := 58) rfl)
theorem gl_59 : (.code y_Wr_repair b_Wr_repair 3 (some .int) : Cond) ∈ GL := List.mem_append_left _ (List.mem_of_getElem? (i := 59) rfl)
theorem gl_60 : (.methodLink "WardRosterLaw" 66 y_Wr_planned : Cond) ∈ GL := List.mem_append_left _ (List.mem_of_getElem? (i := 60) rfl)
theorem gl_61 : (.instanceMethod y_Wr_planned : Cond) ∈ GL := List.mem_append_left _ (List.mem_of_getElem? (i := 61) rfl)
theorem gl_62 : (.selects "WardRoster" y_Wr_planned y_Wr_planned : Cond) ∈ GL := List.mem_append_left _ (List.mem_of_getElem? (i := 62) rfl)
theorem gl_63 : (.code y_Wr_planned b_Wr_planned 3 (some .int) : Cond) ∈ GL := List.mem_append_left _ (List.mem_of_getElem? (i := 63) rfl)
theorem gl_64 : (.methodLink "WardRosterLaw" 73 y_La_open : Cond) ∈ GL := List.mem_append_left _ (List.mem_of_getElem? (i := 64) rfl)
theorem gl_65 : (.static y_La_open : Cond) ∈ GL := List.mem_append_left _ (List.mem_of_getElem? (i := 65) rfl)
theorem gl_66 : (.initialized "WardRosterLaw" : Cond) ∈ GL := List.mem_append_left _ (List.mem_of_getElem? (i := 66) rfl)
theorem gl_68 : (.codeWith y_La_open b_La_open 3 (some .int) [(0, 5, 8, 13)] : Cond) ∈ GL := List.mem_append_left _ (List.mem_of_getElem? (i := 67) rfl)
theorem gl_69 : (.methodLink "WardRosterLaw" 78 y_Wm_open : Cond) ∈ GL := List.mem_append_left _ (List.mem_of_getElem? (i := 68) rfl)
theorem gl_70 : (.instanceMethod y_Wm_open : Cond) ∈ GL := List.mem_append_left _ (List.mem_of_getElem? (i := 69) rfl)
theorem gl_71 : (.selects "WardRosterModel" y_Wm_open y_Wm_open : Cond) ∈ GL := List.mem_append_left _ (List.mem_of_getElem? (i := 70) rfl)
theorem gl_72 : (.code y_Wm_open b_Wm_open 2 none : Cond) ∈ GL := List.mem_append_left _ (List.mem_of_getElem? (i := 71) rfl)
theorem gl_73 : (.methodLink "WardRosterLaw" 79 y_Wm_thrown : Cond) ∈ GL := List.mem_append_left _ (List.mem_of_getElem? (i := 72) rfl)
theorem gl_74 : (.instanceMethod y_Wm_thrown : Cond) ∈ GL := List.mem_append_left _ (List.mem_of_getElem? (i := 73) rfl)
theorem gl_75 : (.selects "WardRosterModel" y_Wm_thrown y_Wm_thrown : Cond) ∈ GL := List.mem_append_left _ (List.mem_of_getElem? (i := 74) rfl)
theorem gl_76 : (.code y_Wm_thrown b_Wm_thrown 1 (some .int) : Cond) ∈ GL := List.mem_append_left _ (List.mem_of_getElem? (i := 75) rfl)
theorem gl_77 : (.methodLink "WardRosterLaw" 82 y_La_contract : Cond) ∈ GL := List.mem_append_left _ (List.mem_of_getElem? (i := 76) rfl)
theorem gl_78 : (.static y_La_contract : Cond) ∈ GL := List.mem_append_left _ (List.mem_of_getElem? (i := 77) rfl)
theorem gl_80 : (.codeWith y_La_contract b_La_contract 5 (some .int) [(0, 7, 10, 19), (0, 7, 14, 13)] : Cond) ∈ GL := List.mem_append_left _ (List.mem_of_getElem? (i := 78) rfl)
theorem gl_81 : (.methodLink "WardRosterLaw" 85 y_Wm_contract : Cond) ∈ GL := List.mem_append_left _ (List.mem_of_getElem? (i := 79) rfl)
theorem gl_82 : (.instanceMethod y_Wm_contract : Cond) ∈ GL := List.mem_append_left _ (List.mem_of_getElem? (i := 80) rfl)
theorem gl_83 : (.selects "WardRosterModel" y_Wm_contract y_Wm_contract : Cond) ∈ GL := List.mem_append_left _ (List.mem_of_getElem? (i := 81) rfl)
theorem gl_84 : (.code y_Wm_contract b_Wm_contract 4 none : Cond) ∈ GL := List.mem_append_left _ (List.mem_of_getElem? (i := 82) rfl)
theorem gl_85 : (.methodLink "WardRosterLaw" 86 y_La_before : Cond) ∈ GL := List.mem_append_left _ (List.mem_of_getElem? (i := 83) rfl)
theorem gl_86 : (.static y_La_before : Cond) ∈ GL := List.mem_append_left _ (List.mem_of_getElem? (i := 84) rfl)
theorem gl_88 : (.codeWith y_La_before b_La_before 5 (some .int) [(0, 7, 10, 19), (0, 7, 14, 13)] : Cond) ∈ GL := List.mem_append_left _ (List.mem_of_getElem? (i := 85) rfl)
theorem gl_89 : (.methodLink "WardRosterLaw" 88 y_Wm_before : Cond) ∈ GL := List.mem_append_left _ (List.mem_of_getElem? (i := 86) rfl)
theorem gl_90 : (.instanceMethod y_Wm_before : Cond) ∈ GL := List.mem_append_left _ (List.mem_of_getElem? (i := 87) rfl)
theorem gl_91 : (.selects "WardRosterModel" y_Wm_before y_Wm_before : Cond) ∈ GL := List.mem_append_left _ (List.mem_of_getElem? (i := 88) rfl)
theorem gl_92 : (.code y_Wm_before b_Wm_before 5 none : Cond) ∈ GL := List.mem_append_left _ (List.mem_of_getElem? (i := 89) rfl)
theorem gl_93 : (.methodLink "WardRosterLaw" 89 y_La_need : Cond) ∈ GL := List.mem_append_left _ (List.mem_of_getElem? (i := 90) rfl)
theorem gl_94 : (.static y_La_need : Cond) ∈ GL := List.mem_append_left _ (List.mem_of_getElem? (i := 91) rfl)
theorem gl_96 : (.codeWith y_La_need b_La_need 6 (some .int) [(0, 12, 15, 19), (0, 12, 19, 13)] : Cond) ∈ GL := List.mem_append_left _ (List.mem_of_getElem? (i := 92) rfl)
theorem gl_97 : (.methodLink "WardRosterLaw" 92 y_Wm_need : Cond) ∈ GL := List.mem_append_left _ (List.mem_of_getElem? (i := 93) rfl)
theorem gl_98 : (.instanceMethod y_Wm_need : Cond) ∈ GL := List.mem_append_left _ (List.mem_of_getElem? (i := 94) rfl)
theorem gl_99 : (.selects "WardRosterModel" y_Wm_need y_Wm_need : Cond) ∈ GL := List.mem_append_left _ (List.mem_of_getElem? (i := 95) rfl)
theorem gl_100 : (.code y_Wm_need b_Wm_need 5 (some .int) : Cond) ∈ GL := List.mem_append_left _ (List.mem_of_getElem? (i := 96) rfl)
theorem gl_101 : (.methodLink "WardRosterLaw" 93 y_La_cost : Cond) ∈ GL := List.mem_append_left _ (List.mem_of_getElem? (i := 97) rfl)
theorem gl_102 : (.static y_La_cost : Cond) ∈ GL := List.mem_append_left _ (List.mem_of_getElem? (i := 98) rfl)
theorem gl_104 : (.codeWith y_La_cost b_La_cost 7 (some .int) [(0, 14, 17, 19), (0, 14, 21, 13)] : Cond) ∈ GL := List.mem_append_left _ (List.mem_of_getElem? (i := 99) rfl)
theorem gl_105 : (.methodLink "WardRosterLaw" 96 y_Wm_cost : Cond) ∈ GL := List.mem_append_left _ (List.mem_of_getElem? (i := 100) rfl)
theorem gl_106 : (.instanceMethod y_Wm_cost : Cond) ∈ GL := List.mem_append_left _ (List.mem_of_getElem? (i := 101) rfl)
theorem gl_107 : (.selects "WardRosterModel" y_Wm_cost y_Wm_cost : Cond) ∈ GL := List.mem_append_left _ (List.mem_of_getElem? (i := 102) rfl)
theorem gl_108 : (.code y_Wm_cost b_Wm_cost 7 (some .int) : Cond) ∈ GL := List.mem_append_left _ (List.mem_of_getElem? (i := 103) rfl)
theorem gl_109 : (.methodLink "WardRosterLaw" 97 y_La_pair : Cond) ∈ GL := List.mem_append_left _ (List.mem_of_getElem? (i := 104) rfl)
theorem gl_110 : (.static y_La_pair : Cond) ∈ GL := List.mem_append_left _ (List.mem_of_getElem? (i := 105) rfl)
theorem gl_112 : (.codeWith y_La_pair b_La_pair 7 (some .int) [(0, 14, 17, 19), (0, 14, 21, 13)] : Cond) ∈ GL := List.mem_append_left _ (List.mem_of_getElem? (i := 106) rfl)
theorem gl_113 : (.methodLink "WardRosterLaw" 99 y_Wm_pair : Cond) ∈ GL := List.mem_append_left _ (List.mem_of_getElem? (i := 107) rfl)
theorem gl_114 : (.instanceMethod y_Wm_pair : Cond) ∈ GL := List.mem_append_left _ (List.mem_of_getElem? (i := 108) rfl)
theorem gl_115 : (.selects "WardRosterModel" y_Wm_pair y_Wm_pair : Cond) ∈ GL := List.mem_append_left _ (List.mem_of_getElem? (i := 109) rfl)
theorem gl_116 : (.code y_Wm_pair b_Wm_pair 7 (some .int) : Cond) ∈ GL := List.mem_append_left _ (List.mem_of_getElem? (i := 110) rfl)
theorem gl_117 : (.methodLink "WardRosterLaw" 100 y_La_fix : Cond) ∈ GL := List.mem_append_left _ (List.mem_of_getElem? (i := 111) rfl)
theorem gl_118 : (.static y_La_fix : Cond) ∈ GL := List.mem_append_left _ (List.mem_of_getElem? (i := 112) rfl)
theorem gl_120 : (.codeWith y_La_fix b_La_fix 6 (some .int) [(0, 12, 15, 19), (0, 12, 19, 13)] : Cond) ∈ GL := List.mem_append_left _ (List.mem_of_getElem? (i := 113) rfl)
theorem gl_121 : (.methodLink "WardRosterLaw" 102 y_Wm_fix : Cond) ∈ GL := List.mem_append_left _ (List.mem_of_getElem? (i := 114) rfl)
theorem gl_122 : (.instanceMethod y_Wm_fix : Cond) ∈ GL := List.mem_append_left _ (List.mem_of_getElem? (i := 115) rfl)
theorem gl_123 : (.selects "WardRosterModel" y_Wm_fix y_Wm_fix : Cond) ∈ GL := List.mem_append_left _ (List.mem_of_getElem? (i := 116) rfl)
theorem gl_124 : (.code y_Wm_fix b_Wm_fix 5 (some .int) : Cond) ∈ GL := List.mem_append_left _ (List.mem_of_getElem? (i := 117) rfl)
theorem gl_125 : (.methodLink "WardRosterLaw" 103 y_Wr_days : Cond) ∈ GL := List.mem_append_left _ (List.mem_of_getElem? (i := 118) rfl)
theorem gl_126 : (.instanceMethod y_Wr_days : Cond) ∈ GL := List.mem_append_left _ (List.mem_of_getElem? (i := 119) rfl)
theorem gl_127 : (.selects "WardRoster" y_Wr_days y_Wr_days : Cond) ∈ GL := List.mem_append_left _ (List.mem_of_getElem? (i := 120) rfl)
theorem gl_128 : (.code y_Wr_days b_Wr_days 1 (some .int) : Cond) ∈ GL := List.mem_append_left _ (List.mem_of_getElem? (i := 121) rfl)
theorem gl_129 : (.methodLink "WardRosterLaw" 106 y_Wm_days : Cond) ∈ GL := List.mem_append_left _ (List.mem_of_getElem? (i := 122) rfl)
theorem gl_130 : (.instanceMethod y_Wm_days : Cond) ∈ GL := List.mem_append_left _ (List.mem_of_getElem? (i := 123) rfl)
theorem gl_131 : (.selects "WardRosterModel" y_Wm_days y_Wm_days : Cond) ∈ GL := List.mem_append_left _ (List.mem_of_getElem? (i := 124) rfl)
theorem gl_132 : (.code y_Wm_days b_Wm_days 1 (some .int) : Cond) ∈ GL := List.mem_append_left _ (List.mem_of_getElem? (i := 125) rfl)
theorem gl_133 : (.methodLink "WardRosterLaw" 107 y_La_lines : Cond) ∈ GL := List.mem_append_left _ (List.mem_of_getElem? (i := 126) rfl)
theorem gl_134 : (.static y_La_lines : Cond) ∈ GL := List.mem_append_left _ (List.mem_of_getElem? (i := 127) rfl)
theorem gl_136 : (.codeWith y_La_lines b_La_lines 4 (some .int) [(0, 9, 12, 19)] : Cond) ∈ GL := List.mem_append_left _ (List.mem_of_getElem? (i := 128) rfl)
theorem gl_137 : (.methodLink "WardRosterLaw" 110 y_Wm_lines : Cond) ∈ GL := List.mem_append_left _ (List.mem_of_getElem? (i := 129) rfl)
theorem gl_138 : (.instanceMethod y_Wm_lines : Cond) ∈ GL := List.mem_append_left _ (List.mem_of_getElem? (i := 130) rfl)
theorem gl_139 : (.selects "WardRosterModel" y_Wm_lines y_Wm_lines : Cond) ∈ GL := List.mem_append_left _ (List.mem_of_getElem? (i := 131) rfl)
theorem gl_140 : (.code y_Wm_lines b_Wm_lines 4 (some .int) : Cond) ∈ GL := List.mem_append_left _ (List.mem_of_getElem? (i := 132) rfl)
theorem gl_141 : (.methodLink "WardRosterLaw" 111 y_La_line : Cond) ∈ GL := List.mem_append_left _ (List.mem_of_getElem? (i := 133) rfl)
theorem gl_142 : (.static y_La_line : Cond) ∈ GL := List.mem_append_left _ (List.mem_of_getElem? (i := 134) rfl)
theorem gl_144 : (.codeWith y_La_line b_La_line 4 (some .int) [(0, 9, 12, 19)] : Cond) ∈ GL := List.mem_append_left _ (List.mem_of_getElem? (i := 135) rfl)
theorem gl_145 : (.methodLink "WardRosterLaw" 113 y_Wm_line : Cond) ∈ GL := List.mem_append_left _ (List.mem_of_getElem? (i := 136) rfl)
theorem gl_146 : (.instanceMethod y_Wm_line : Cond) ∈ GL := List.mem_append_left _ (List.mem_of_getElem? (i := 137) rfl)
theorem gl_147 : (.selects "WardRosterModel" y_Wm_line y_Wm_line : Cond) ∈ GL := List.mem_append_left _ (List.mem_of_getElem? (i := 138) rfl)
theorem gl_148 : (.code y_Wm_line b_Wm_line 4 (some .int) : Cond) ∈ GL := List.mem_append_left _ (List.mem_of_getElem? (i := 139) rfl)
theorem gl_149 : (.methodLink "WardRosterLaw" 114 y_Wr_least : Cond) ∈ GL := List.mem_append_left _ (List.mem_of_getElem? (i := 140) rfl)
theorem gl_150 : (.instanceMethod y_Wr_least : Cond) ∈ GL := List.mem_append_left _ (List.mem_of_getElem? (i := 141) rfl)
theorem gl_151 : (.selects "WardRoster" y_Wr_least y_Wr_least : Cond) ∈ GL := List.mem_append_left _ (List.mem_of_getElem? (i := 142) rfl)
theorem gl_152 : (.code y_Wr_least b_Wr_least 1 (some .int) : Cond) ∈ GL := List.mem_append_left _ (List.mem_of_getElem? (i := 143) rfl)
theorem gl_153 : (.methodLink "WardRosterLaw" 117 y_Wm_least : Cond) ∈ GL := List.mem_append_left _ (List.mem_of_getElem? (i := 144) rfl)
theorem gl_154 : (.instanceMethod y_Wm_least : Cond) ∈ GL := List.mem_append_left _ (List.mem_of_getElem? (i := 145) rfl)
theorem gl_155 : (.selects "WardRosterModel" y_Wm_least y_Wm_least : Cond) ∈ GL := List.mem_append_left _ (List.mem_of_getElem? (i := 146) rfl)
theorem gl_156 : (.code y_Wm_least b_Wm_least 1 (some .int) : Cond) ∈ GL := List.mem_append_left _ (List.mem_of_getElem? (i := 147) rfl)
theorem gl_157 : (.methodLink "WardRosterLaw" 118 y_La_best : Cond) ∈ GL := List.mem_append_left _ (List.mem_of_getElem? (i := 148) rfl)
theorem gl_158 : (.static y_La_best : Cond) ∈ GL := List.mem_append_left _ (List.mem_of_getElem? (i := 149) rfl)
theorem gl_160 : (.codeWith y_La_best b_La_best 5 (some .int) [(0, 10, 13, 19), (0, 10, 17, 49)] : Cond) ∈ GL := List.mem_append_left _ (List.mem_of_getElem? (i := 150) rfl)
theorem gl_161 : (.methodLink "WardRosterLaw" 121 y_Wm_best : Cond) ∈ GL := List.mem_append_left _ (List.mem_of_getElem? (i := 151) rfl)
theorem gl_162 : (.instanceMethod y_Wm_best : Cond) ∈ GL := List.mem_append_left _ (List.mem_of_getElem? (i := 152) rfl)
theorem gl_163 : (.selects "WardRosterModel" y_Wm_best y_Wm_best : Cond) ∈ GL := List.mem_append_left _ (List.mem_of_getElem? (i := 153) rfl)
theorem gl_164 : (.code y_Wm_best b_Wm_best 3 (some .int) : Cond) ∈ GL := List.mem_append_left _ (List.mem_of_getElem? (i := 154) rfl)
theorem gl_165 : (.methodLink "WardRosterLaw" 122 y_La_raise : Cond) ∈ GL := List.mem_append_left _ (List.mem_of_getElem? (i := 155) rfl)
theorem gl_166 : (.static y_La_raise : Cond) ∈ GL := List.mem_append_left _ (List.mem_of_getElem? (i := 156) rfl)
theorem gl_168 : (.codeWith y_La_raise b_La_raise 4 (some .int) [(0, 9, 12, 13), (0, 9, 15, 54)] : Cond) ∈ GL := List.mem_append_left _ (List.mem_of_getElem? (i := 157) rfl)
theorem gl_169 : (.methodLink "WardRosterLaw" 124 y_Wm_raise : Cond) ∈ GL := List.mem_append_left _ (List.mem_of_getElem? (i := 158) rfl)
theorem gl_170 : (.instanceMethod y_Wm_raise : Cond) ∈ GL := List.mem_append_left _ (List.mem_of_getElem? (i := 159) rfl)
theorem gl_171 : (.selects "WardRosterModel" y_Wm_raise y_Wm_raise : Cond) ∈ GL := List.mem_append_left _ (List.mem_of_getElem? (i := 160) rfl)
theorem gl_172 : (.code y_Wm_raise b_Wm_raise 3 (some .int) : Cond) ∈ GL := List.mem_append_left _ (List.mem_of_getElem? (i := 161) rfl)
theorem gl_173 : (.methodLink "WardRosterLaw" 125 y_Wr_bound : Cond) ∈ GL := List.mem_append_left _ (List.mem_of_getElem? (i := 162) rfl)
theorem gl_174 : (.instanceMethod y_Wr_bound : Cond) ∈ GL := List.mem_append_left _ (List.mem_of_getElem? (i := 163) rfl)
theorem gl_175 : (.selects "WardRoster" y_Wr_bound y_Wr_bound : Cond) ∈ GL := List.mem_append_left _ (List.mem_of_getElem? (i := 164) rfl)
theorem gl_176 : (.code y_Wr_bound b_Wr_bound 1 (some .int) : Cond) ∈ GL := List.mem_append_left _ (List.mem_of_getElem? (i := 165) rfl)
theorem gl_177 : (.methodLink "WardRosterLaw" 128 y_Wm_bound : Cond) ∈ GL := List.mem_append_left _ (List.mem_of_getElem? (i := 166) rfl)
theorem gl_178 : (.instanceMethod y_Wm_bound : Cond) ∈ GL := List.mem_append_left _ (List.mem_of_getElem? (i := 167) rfl)
theorem gl_179 : (.selects "WardRosterModel" y_Wm_bound y_Wm_bound : Cond) ∈ GL := List.mem_append_left _ (List.mem_of_getElem? (i := 168) rfl)
theorem gl_180 : (.code y_Wm_bound b_Wm_bound 1 (some .int) : Cond) ∈ GL := List.mem_append_left _ (List.mem_of_getElem? (i := 169) rfl)
theorem gl_181 : (.methodLink "WardRosterLaw" 129 y_La_price : Cond) ∈ GL := List.mem_append_left _ (List.mem_of_getElem? (i := 170) rfl)
theorem gl_182 : (.static y_La_price : Cond) ∈ GL := List.mem_append_left _ (List.mem_of_getElem? (i := 171) rfl)
theorem gl_184 : (.codeWith y_La_price b_La_price 5 (some .int) [(0, 10, 13, 19)] : Cond) ∈ GL := List.mem_append_left _ (List.mem_of_getElem? (i := 172) rfl)
theorem gl_185 : (.methodLink "WardRosterLaw" 131 y_Wm_price : Cond) ∈ GL := List.mem_append_left _ (List.mem_of_getElem? (i := 173) rfl)
theorem gl_186 : (.instanceMethod y_Wm_price : Cond) ∈ GL := List.mem_append_left _ (List.mem_of_getElem? (i := 174) rfl)
theorem gl_187 : (.selects "WardRosterModel" y_Wm_price y_Wm_price : Cond) ∈ GL := List.mem_append_left _ (List.mem_of_getElem? (i := 175) rfl)
theorem gl_188 : (.code y_Wm_price b_Wm_price 3 (some .int) : Cond) ∈ GL := List.mem_append_left _ (List.mem_of_getElem? (i := 176) rfl)
theorem gl_189 : (.methodLink "WardRosterLaw" 132 y_La_adopt : Cond) ∈ GL := List.mem_append_left _ (List.mem_of_getElem? (i := 177) rfl)
theorem gl_190 : (.static y_La_adopt : Cond) ∈ GL := List.mem_append_left _ (List.mem_of_getElem? (i := 178) rfl)
theorem gl_192 : (.codeWith y_La_adopt b_La_adopt 3 (some .int) [(0, 8, 11, 49)] : Cond) ∈ GL := List.mem_append_left _ (List.mem_of_getElem? (i := 179) rfl)
theorem gl_193 : (.methodLink "WardRosterLaw" 135 y_Wm_adopt : Cond) ∈ GL := List.mem_append_left _ (List.mem_of_getElem? (i := 180) rfl)
theorem gl_194 : (.instanceMethod y_Wm_adopt : Cond) ∈ GL := List.mem_append_left _ (List.mem_of_getElem? (i := 181) rfl)
theorem gl_195 : (.selects "WardRosterModel" y_Wm_adopt y_Wm_adopt : Cond) ∈ GL := List.mem_append_left _ (List.mem_of_getElem? (i := 182) rfl)
theorem gl_196 : (.code y_Wm_adopt b_Wm_adopt 2 (some .int) : Cond) ∈ GL := List.mem_append_left _ (List.mem_of_getElem? (i := 183) rfl)
theorem gl_197 : (.methodLink "WardRosterLaw" 136 y_La_repair : Cond) ∈ GL := List.mem_append_left _ (List.mem_of_getElem? (i := 184) rfl)
theorem gl_198 : (.static y_La_repair : Cond) ∈ GL := List.mem_append_left _ (List.mem_of_getElem? (i := 185) rfl)
theorem gl_200 : (.codeWith y_La_repair b_La_repair 3 (some .int) [(0, 8, 11, 54), (0, 8, 14, 49)] : Cond) ∈ GL := List.mem_append_left _ (List.mem_of_getElem? (i := 186) rfl)
theorem gl_201 : (.methodLink "WardRosterLaw" 138 y_Wm_repair : Cond) ∈ GL := List.mem_append_left _ (List.mem_of_getElem? (i := 187) rfl)
theorem gl_202 : (.instanceMethod y_Wm_repair : Cond) ∈ GL := List.mem_append_left _ (List.mem_of_getElem? (i := 188) rfl)
theorem gl_203 : (.selects "WardRosterModel" y_Wm_repair y_Wm_repair : Cond) ∈ GL := List.mem_append_left _ (List.mem_of_getElem? (i := 189) rfl)
theorem gl_204 : (.code y_Wm_repair b_Wm_repair 2 (some .int) : Cond) ∈ GL := List.mem_append_left _ (List.mem_of_getElem? (i := 190) rfl)
theorem gl_205 : (.methodLink "WardRosterLaw" 139 y_La_planned : Cond) ∈ GL := List.mem_append_left _ (List.mem_of_getElem? (i := 191) rfl)
theorem gl_206 : (.static y_La_planned : Cond) ∈ GL := List.mem_append_left _ (List.mem_of_getElem? (i := 192) rfl)
theorem gl_208 : (.codeWith y_La_planned b_La_planned 5 (some .int) [(0, 10, 13, 19)] : Cond) ∈ GL := List.mem_append_left _ (List.mem_of_getElem? (i := 193) rfl)
theorem gl_209 : (.methodLink "WardRosterLaw" 141 y_Wm_planned : Cond) ∈ GL := List.mem_append_left _ (List.mem_of_getElem? (i := 194) rfl)
theorem gl_210 : (.instanceMethod y_Wm_planned : Cond) ∈ GL := List.mem_append_left _ (List.mem_of_getElem? (i := 195) rfl)
theorem gl_211 : (.selects "WardRosterModel" y_Wm_planned y_Wm_planned : Cond) ∈ GL := List.mem_append_left _ (List.mem_of_getElem? (i := 196) rfl)
theorem gl_212 : (.code y_Wm_planned b_Wm_planned 3 (some .int) : Cond) ∈ GL := List.mem_append_left _ (List.mem_of_getElem? (i := 197) rfl)
theorem gl_213 : (.methodLink "WardRosterLaw" 142 y_Wr_check : Cond) ∈ GL := List.mem_append_left _ (List.mem_of_getElem? (i := 198) rfl)
theorem gl_214 : (.instanceMethod y_Wr_check : Cond) ∈ GL := List.mem_append_left _ (List.mem_of_getElem? (i := 199) rfl)
theorem gl_215 : (.selects "WardRoster" y_Wr_check y_Wr_check : Cond) ∈ GL := List.mem_append_left _ (List.mem_of_getElem? (i := 200) rfl)
theorem gl_216 : (.code y_Wr_check b_Wr_check 3 (some .int) : Cond) ∈ GL := List.mem_append_left _ (List.mem_of_getElem? (i := 201) rfl)
theorem gl_217 : (.methodLink "WardRosterLaw" 145 y_Wm_check : Cond) ∈ GL := List.mem_append_left _ (List.mem_of_getElem? (i := 202) rfl)
theorem gl_218 : (.instanceMethod y_Wm_check : Cond) ∈ GL := List.mem_append_left _ (List.mem_of_getElem? (i := 203) rfl)
theorem gl_219 : (.selects "WardRosterModel" y_Wm_check y_Wm_check : Cond) ∈ GL := List.mem_append_left _ (List.mem_of_getElem? (i := 204) rfl)
theorem gl_220 : (.code y_Wm_check b_Wm_check 5 (some .int) : Cond) ∈ GL := List.mem_append_left _ (List.mem_of_getElem? (i := 205) rfl)
theorem inL_Nu : ∀ w ∈ u_ws "WardRoster$Nurse" F_Nu 8, w ∈ GL := fun w h => gl_of (in_Nu w h)
theorem inL_Wa : ∀ w ∈ u_ws "WardRoster$Ward" F_Wa 3, w ∈ GL := fun w h => gl_of (in_Wa w h)
theorem inL_Lw : ∀ w ∈ u_ws "WardRoster$LineWalk" F_Lw 4, w ∈ GL := fun w h => gl_of (in_Lw w h)
theorem inL_Rs : ∀ w ∈ u_ws "WardRoster$RosterSearch" F_Rs 4, w ∈ GL := fun w h => gl_of (in_Rs w h)
theorem inL_Pr : ∀ w ∈ u_ws "WardRoster$Pricing" F_Pr 3, w ∈ GL := fun w h => gl_of (in_Pr w h)
theorem inL_Wr : ∀ w ∈ u_ws "WardRoster" F_Wr 8, w ∈ GL := fun w h => gl_of (in_Wr w h)
theorem inL_Wm : ∀ w ∈ u_ws "WardRosterModel" F_Wm 27, w ∈ GL := fun w h => gl_of (in_Wm w h)
theorem cast_1 : (.castable "java/lang/IndexOutOfBoundsException" "java/lang/IndexOutOfBoundsException" : Cond) ∈ TWL := aI_in _ (List.mem_filter.mpr ⟨by simp [atE], by decide +kernel⟩)
theorem cast_2 : (.castable "java/lang/IllegalArgumentException" "java/lang/IllegalArgumentException" : Cond) ∈ TWL := aA_in _ (List.mem_filter.mpr ⟨by simp [atE], by decide +kernel⟩)
theorem cast_3 : (.castable "java/lang/IllegalStateException" "java/lang/IllegalStateException" : Cond) ∈ TWL := aS_in _ (List.mem_filter.mpr ⟨by simp [atE], by decide +kernel⟩)
theorem cast_4 : (.castable "java/util/NoSuchElementException" "java/util/NoSuchElementException" : Cond) ∈ TWL := aN_in _ (List.mem_filter.mpr ⟨by simp [atE], by decide +kernel⟩)
abbrev w_La_open : List Cond := .codeWith y_La_open b_La_open 3 (some .int) [(0, 5, 8, 13)] :: GL
abbrev w_La_contract : List Cond := .codeWith y_La_contract b_La_contract 5 (some .int) [(0, 7, 10, 19), (0, 7, 14, 13)] :: GL
abbrev w_La_before : List Cond := .codeWith y_La_before b_La_before 5 (some .int) [(0, 7, 10, 19), (0, 7, 14, 13)] :: GL
abbrev w_La_need : List Cond := .codeWith y_La_need b_La_need 6 (some .int) [(0, 12, 15, 19), (0, 12, 19, 13)] :: GL
abbrev w_La_cost : List Cond := .codeWith y_La_cost b_La_cost 7 (some .int) [(0, 14, 17, 19), (0, 14, 21, 13)] :: GL
abbrev w_La_pair : List Cond := .codeWith y_La_pair b_La_pair 7 (some .int) [(0, 14, 17, 19), (0, 14, 21, 13)] :: GL
abbrev w_La_fix : List Cond := .codeWith y_La_fix b_La_fix 6 (some .int) [(0, 12, 15, 19), (0, 12, 19, 13)] :: GL
abbrev w_La_lines : List Cond := .codeWith y_La_lines b_La_lines 4 (some .int) [(0, 9, 12, 19)] :: GL
abbrev w_La_line : List Cond := .codeWith y_La_line b_La_line 4 (some .int) [(0, 9, 12, 19)] :: GL
abbrev w_La_best : List Cond := .codeWith y_La_best b_La_best 5 (some .int) [(0, 10, 13, 19), (0, 10, 17, 49)] :: GL
abbrev w_La_raise : List Cond := .codeWith y_La_raise b_La_raise 4 (some .int) [(0, 9, 12, 13), (0, 9, 15, 54)] :: GL
abbrev w_La_price : List Cond := .codeWith y_La_price b_La_price 5 (some .int) [(0, 10, 13, 19)] :: GL
abbrev w_La_adopt : List Cond := .codeWith y_La_adopt b_La_adopt 3 (some .int) [(0, 8, 11, 49)] :: GL
abbrev w_La_repair : List Cond := .codeWith y_La_repair b_La_repair 3 (some .int) [(0, 8, 11, 54), (0, 8, 14, 49)] :: GL
abbrev w_La_planned : List Cond := .codeWith y_La_planned b_La_planned 5 (some .int) [(0, 10, 13, 19)] :: GL
