theorem d_Wr_cell_0 : decode b_Wr_cell 0 = .ok (.iconst 4, 1) := by decide +kernel
theorem d_Wr_cell_1 : decode b_Wr_cell 1 = .ok (.iload_n 0, 1) := by decide +kernel
theorem d_Wr_cell_2 : decode b_Wr_cell 2 = .ok (.imul, 1) := by decide +kernel
theorem d_Wr_cell_3 : decode b_Wr_cell 3 = .ok (.iload_n 1, 1) := by decide +kernel
theorem d_Wr_cell_4 : decode b_Wr_cell 4 = .ok (.iadd, 1) := by decide +kernel
theorem d_Wr_cell_5 : decode b_Wr_cell 5 = .ok (.ireturn, 1) := by decide +kernel
def f_Wr_cell (x0 : Int32) (x1 : Int32) : Option (Int32) :=
  some ((4 * x0) + x1)
set_option maxHeartbeats 4000000 in
set_option maxRecDepth 100000 in
theorem T_Wr_cell_e {p : Program} {l : Launch} {e : Env} {s : State} {m : MethodId} {args : Array Value} {below : List Frame} {meth : Method} {c : Code} {Q : State → Prop} {D : va_G} {cI cJ cZ cN : ClassId} (C : Cx p s m args c b_Wr_cell 2 "WardRoster" D cI cJ cZ cN) {x0 x1 : Int32} {ls : Array Slot} (hP : va_P D classes [] s.heap) (hl : lv_has ls 2 [(0, .int x0), (1, .int x1)]) {r : Int32} (hf : f_Wr_cell x0 x1 = some r) (K : ∀ {pc : Nat} {ls : Array Slot}, decode b_Wr_cell pc = .ok (.ireturn, 1) → W p l e rm_Wr_cell s m args below meth c s.heap [] 0 0 Q (F0 m pc ls [.int r])) : W p l e rm_Wr_cell s m args below meth c s.heap [] 0 0 Q (F0 m 0 ls []) := by
  obtain ⟨hx, hb, hml, hown, hts, hK, hN⟩ := id C
  have hf : (some ((4 * x0) + x1) : Option (Int32)) = some r := hf
  refine lv_iconst (v := 4) hx hb d_Wr_cell_0 (by decide) ?_
  refine lv_iload_n hx hb d_Wr_cell_1 rfl (lv_at hl 0 rfl) ?_
  refine lv_imul hx hb d_Wr_cell_2 ?_
  refine lv_iload_n hx hb d_Wr_cell_3 rfl (lv_at hl 1 rfl) ?_
  refine lv_iadd hx hb d_Wr_cell_4 ?_
  cases hf
  exact K d_Wr_cell_5
set_option maxHeartbeats 4000000 in
set_option maxRecDepth 100000 in
theorem c_Wr_cell {l : Launch} {D : va_G} {cI cJ cZ cN : ClassId} {x0 x1 : Int32} {r : Int32} (hf : f_Wr_cell x0 x1 = some r) : CR_i l y_Wr_cell w_Wr_cell rm_Wr_cell [.int x0, .int x1] D cI cJ cZ cN [] r := by
  refine Met.ofW (cc := b_Wr_cell) (maxL := 2) (ret := (some .int)) (by decide) rfl ?_
  intro p e s m args below meth c s₁ B hml hv
  obtain ⟨rfl, hP, hK, hN⟩ := hv
  have hx := B.exec
  have hb := B.bytes
  have hr := B.returns
  have hts := fun w h => atoms_spec (ws := w_Wr_cell) B.pre w (List.mem_cons_of_mem _ h)
  have hown : s.vm.findClass "WardRoster" = some m.cls := findClass_of_methodNamed B.named
  have hlocks := B.notSynchronized
  have hl := lv_entry [.int x0, .int x1] (n := 2) (Nat.le_of_ble_eq_true rfl)
  rw [lg_entry_eq]
  generalize (lg_sl [.int x0, .int x1] ++ List.replicate (2 - (lg_sl [.int x0, .int x1]).length) Slot.unset).toArray = ls at hl ⊢
  have hl : lv_has ls 2 [(0, .int x0), (1, .int x1)] := hl
  exact T_Wr_cell_e ⟨hx, hb, hml, hown, hts, hK, hN⟩ hP hl hf (fun hd => W.iret hx hb hr (fun t ht hW => ⟨_, rfl, rfl, ht⟩) (fun _ h => by cases h) hd)
theorem d_Wr_stateOf_0 : decode b_Wr_stateOf 0 = .ok (.iload_n 0, 1) := by decide +kernel
theorem d_Wr_stateOf_1 : decode b_Wr_stateOf 1 = .ok (.ifCond .ne 7, 3) := by decide +kernel
theorem d_Wr_stateOf_4 : decode b_Wr_stateOf 4 = .ok (.iconst 0, 1) := by decide +kernel
theorem d_Wr_stateOf_5 : decode b_Wr_stateOf 5 = .ok (.goto 10, 3) := by decide +kernel
theorem d_Wr_stateOf_8 : decode b_Wr_stateOf 8 = .ok (.iconst 3, 1) := by decide +kernel
theorem d_Wr_stateOf_9 : decode b_Wr_stateOf 9 = .ok (.iload_n 1, 1) := by decide +kernel
theorem d_Wr_stateOf_10 : decode b_Wr_stateOf 10 = .ok (.iconst 1, 1) := by decide +kernel
theorem d_Wr_stateOf_11 : decode b_Wr_stateOf 11 = .ok (.isub, 1) := by decide +kernel
theorem d_Wr_stateOf_12 : decode b_Wr_stateOf 12 = .ok (.imul, 1) := by decide +kernel
theorem d_Wr_stateOf_13 : decode b_Wr_stateOf 13 = .ok (.iload_n 0, 1) := by decide +kernel
theorem d_Wr_stateOf_14 : decode b_Wr_stateOf 14 = .ok (.iadd, 1) := by decide +kernel
theorem d_Wr_stateOf_15 : decode b_Wr_stateOf 15 = .ok (.ireturn, 1) := by decide +kernel
def f_Wr_stateOf (x0 : Int32) (x1 : Int32) : Option (Int32) :=
  if x0 = 0 then some (0 : Int32) else some ((3 * (x1 - 1)) + x0)
set_option maxHeartbeats 4000000 in
set_option maxRecDepth 100000 in
theorem T_Wr_stateOf_e {p : Program} {l : Launch} {e : Env} {s : State} {m : MethodId} {args : Array Value} {below : List Frame} {meth : Method} {c : Code} {Q : State → Prop} {D : va_G} {cI cJ cZ cN : ClassId} (C : Cx p s m args c b_Wr_stateOf 2 "WardRoster" D cI cJ cZ cN) {x0 x1 : Int32} {ls : Array Slot} (hP : va_P D classes [] s.heap) (hl : lv_has ls 2 [(0, .int x0), (1, .int x1)]) {r : Int32} (hf : f_Wr_stateOf x0 x1 = some r) (K : ∀ {pc : Nat} {ls : Array Slot}, decode b_Wr_stateOf pc = .ok (.ireturn, 1) → W p l e rm_Wr_stateOf s m args below meth c s.heap [] 0 0 Q (F0 m pc ls [.int r])) : W p l e rm_Wr_stateOf s m args below meth c s.heap [] 0 0 Q (F0 m 0 ls []) := by
  obtain ⟨hx, hb, hml, hown, hts, hK, hN⟩ := id C
  have hf : (if x0 = 0 then some (0 : Int32) else some ((3 * (x1 - 1)) + x0) : Option (Int32)) = some r := hf
  refine lv_iload_n hx hb d_Wr_stateOf_0 rfl (lv_at hl 0 rfl) ?_
  refine lv_if_ne (tgt := 8) hx hb d_Wr_stateOf_1 (by decide) (fun hc0 => ?_) (fun hc0 => ?_)
  · have hf := if_f hc0 hf
    refine lv_iconst (v := 3) hx hb d_Wr_stateOf_8 (by decide) ?_
    refine lv_iload_n hx hb d_Wr_stateOf_9 rfl (lv_at hl 1 rfl) ?_
    refine lv_iconst (v := 1) hx hb d_Wr_stateOf_10 (by decide) ?_
    refine lv_isub hx hb d_Wr_stateOf_11 ?_
    refine lv_imul hx hb d_Wr_stateOf_12 ?_
    refine lv_iload_n hx hb d_Wr_stateOf_13 rfl (lv_at hl 0 rfl) ?_
    refine lv_iadd hx hb d_Wr_stateOf_14 ?_
    cases hf
    exact K d_Wr_stateOf_15
  · have hf := if_t hc0 hf
    refine lv_iconst (v := 0) hx hb d_Wr_stateOf_4 (by decide) ?_
    refine lv_goto (tgt := 15) hx hb d_Wr_stateOf_5 (by decide) ?_
    cases hf
    exact K d_Wr_stateOf_15
set_option maxHeartbeats 4000000 in
set_option maxRecDepth 100000 in
theorem c_Wr_stateOf {l : Launch} {D : va_G} {cI cJ cZ cN : ClassId} {x0 x1 : Int32} {r : Int32} (hf : f_Wr_stateOf x0 x1 = some r) : CR_i l y_Wr_stateOf w_Wr_stateOf rm_Wr_stateOf [.int x0, .int x1] D cI cJ cZ cN [] r := by
  refine Met.ofW (cc := b_Wr_stateOf) (maxL := 2) (ret := (some .int)) (by decide) rfl ?_
  intro p e s m args below meth c s₁ B hml hv
  obtain ⟨rfl, hP, hK, hN⟩ := hv
  have hx := B.exec
  have hb := B.bytes
  have hr := B.returns
  have hts := fun w h => atoms_spec (ws := w_Wr_stateOf) B.pre w (List.mem_cons_of_mem _ h)
  have hown : s.vm.findClass "WardRoster" = some m.cls := findClass_of_methodNamed B.named
  have hlocks := B.notSynchronized
  have hl := lv_entry [.int x0, .int x1] (n := 2) (Nat.le_of_ble_eq_true rfl)
  rw [lg_entry_eq]
  generalize (lg_sl [.int x0, .int x1] ++ List.replicate (2 - (lg_sl [.int x0, .int x1]).length) Slot.unset).toArray = ls at hl ⊢
  have hl : lv_has ls 2 [(0, .int x0), (1, .int x1)] := hl
  exact T_Wr_stateOf_e ⟨hx, hb, hml, hown, hts, hK, hN⟩ hP hl hf (fun hd => W.iret hx hb hr (fun t ht hW => ⟨_, rfl, rfl, ht⟩) (fun _ h => by cases h) hd)
theorem d_Wr_shiftOf_0 : decode b_Wr_shiftOf 0 = .ok (.iload_n 0, 1) := by decide +kernel
theorem d_Wr_shiftOf_1 : decode b_Wr_shiftOf 1 = .ok (.ifCond .ne 7, 3) := by decide +kernel
theorem d_Wr_shiftOf_4 : decode b_Wr_shiftOf 4 = .ok (.iconst 0, 1) := by decide +kernel
theorem d_Wr_shiftOf_5 : decode b_Wr_shiftOf 5 = .ok (.goto 10, 3) := by decide +kernel
theorem d_Wr_shiftOf_8 : decode b_Wr_shiftOf 8 = .ok (.iload_n 0, 1) := by decide +kernel
theorem d_Wr_shiftOf_9 : decode b_Wr_shiftOf 9 = .ok (.iconst 1, 1) := by decide +kernel
theorem d_Wr_shiftOf_10 : decode b_Wr_shiftOf 10 = .ok (.isub, 1) := by decide +kernel
theorem d_Wr_shiftOf_11 : decode b_Wr_shiftOf 11 = .ok (.iconst 3, 1) := by decide +kernel
theorem d_Wr_shiftOf_12 : decode b_Wr_shiftOf 12 = .ok (.irem, 1) := by decide +kernel
theorem d_Wr_shiftOf_13 : decode b_Wr_shiftOf 13 = .ok (.iconst 1, 1) := by decide +kernel
theorem d_Wr_shiftOf_14 : decode b_Wr_shiftOf 14 = .ok (.iadd, 1) := by decide +kernel
theorem d_Wr_shiftOf_15 : decode b_Wr_shiftOf 15 = .ok (.ireturn, 1) := by decide +kernel
def f_Wr_shiftOf (x0 : Int32) : Option (Int32) :=
  if x0 = 0 then some (0 : Int32) else some (((x0 - 1) - (x0 - 1) / 3 * 3) + 1)
set_option maxHeartbeats 4000000 in
set_option maxRecDepth 100000 in
theorem T_Wr_shiftOf_e {p : Program} {l : Launch} {e : Env} {s : State} {m : MethodId} {args : Array Value} {below : List Frame} {meth : Method} {c : Code} {Q : State → Prop} {D : va_G} {cI cJ cZ cN : ClassId} (C : Cx p s m args c b_Wr_shiftOf 1 "WardRoster" D cI cJ cZ cN) {x0 : Int32} {ls : Array Slot} (hP : va_P D classes [] s.heap) (hl : lv_has ls 1 [(0, .int x0)]) {r : Int32} (hf : f_Wr_shiftOf x0 = some r) (K : ∀ {pc : Nat} {ls : Array Slot}, decode b_Wr_shiftOf pc = .ok (.ireturn, 1) → W p l e rm_Wr_shiftOf s m args below meth c s.heap [] 0 0 Q (F0 m pc ls [.int r])) : W p l e rm_Wr_shiftOf s m args below meth c s.heap [] 0 0 Q (F0 m 0 ls []) := by
  obtain ⟨hx, hb, hml, hown, hts, hK, hN⟩ := id C
  have hf : (if x0 = 0 then some (0 : Int32) else some (((x0 - 1) - (x0 - 1) / 3 * 3) + 1) : Option (Int32)) = some r := hf
  refine lv_iload_n hx hb d_Wr_shiftOf_0 rfl (lv_at hl 0 rfl) ?_
  refine lv_if_ne (tgt := 8) hx hb d_Wr_shiftOf_1 (by decide) (fun hc0 => ?_) (fun hc0 => ?_)
  · have hf := if_f hc0 hf
    refine lv_iload_n hx hb d_Wr_shiftOf_8 rfl (lv_at hl 0 rfl) ?_
    refine lv_iconst (v := 1) hx hb d_Wr_shiftOf_9 (by decide) ?_
    refine lv_isub hx hb d_Wr_shiftOf_10 ?_
    refine lv_iconst (v := 3) hx hb d_Wr_shiftOf_11 (by decide) ?_
    refine lv_irem hx hb d_Wr_shiftOf_12 (by decide) ?_
    refine lv_iconst (v := 1) hx hb d_Wr_shiftOf_13 (by decide) ?_
    refine lv_iadd hx hb d_Wr_shiftOf_14 ?_
    cases hf
    exact K d_Wr_shiftOf_15
  · have hf := if_t hc0 hf
    refine lv_iconst (v := 0) hx hb d_Wr_shiftOf_4 (by decide) ?_
    refine lv_goto (tgt := 15) hx hb d_Wr_shiftOf_5 (by decide) ?_
    cases hf
    exact K d_Wr_shiftOf_15
set_option maxHeartbeats 4000000 in
set_option maxRecDepth 100000 in
theorem c_Wr_shiftOf {l : Launch} {D : va_G} {cI cJ cZ cN : ClassId} {x0 : Int32} {r : Int32} (hf : f_Wr_shiftOf x0 = some r) : CR_i l y_Wr_shiftOf w_Wr_shiftOf rm_Wr_shiftOf [.int x0] D cI cJ cZ cN [] r := by
  refine Met.ofW (cc := b_Wr_shiftOf) (maxL := 1) (ret := (some .int)) (by decide) rfl ?_
  intro p e s m args below meth c s₁ B hml hv
  obtain ⟨rfl, hP, hK, hN⟩ := hv
  have hx := B.exec
  have hb := B.bytes
  have hr := B.returns
  have hts := fun w h => atoms_spec (ws := w_Wr_shiftOf) B.pre w (List.mem_cons_of_mem _ h)
  have hown : s.vm.findClass "WardRoster" = some m.cls := findClass_of_methodNamed B.named
  have hlocks := B.notSynchronized
  have hl := lv_entry [.int x0] (n := 1) (Nat.le_of_ble_eq_true rfl)
  rw [lg_entry_eq]
  generalize (lg_sl [.int x0] ++ List.replicate (1 - (lg_sl [.int x0]).length) Slot.unset).toArray = ls at hl ⊢
  have hl : lv_has ls 1 [(0, .int x0)] := hl
  exact T_Wr_shiftOf_e ⟨hx, hb, hml, hown, hts, hK, hN⟩ hP hl hf (fun hd => W.iret hx hb hr (fun t ht hW => ⟨_, rfl, rfl, ht⟩) (fun _ h => by cases h) hd)
theorem d_Wr_workedOf_0 : decode b_Wr_workedOf 0 = .ok (.iload_n 0, 1) := by decide +kernel
theorem d_Wr_workedOf_1 : decode b_Wr_workedOf 1 = .ok (.ifCond .ne 7, 3) := by decide +kernel
theorem d_Wr_workedOf_4 : decode b_Wr_workedOf 4 = .ok (.iconst 0, 1) := by decide +kernel
theorem d_Wr_workedOf_5 : decode b_Wr_workedOf 5 = .ok (.goto 10, 3) := by decide +kernel
theorem d_Wr_workedOf_8 : decode b_Wr_workedOf 8 = .ok (.iload_n 0, 1) := by decide +kernel
theorem d_Wr_workedOf_9 : decode b_Wr_workedOf 9 = .ok (.iconst 1, 1) := by decide +kernel
theorem d_Wr_workedOf_10 : decode b_Wr_workedOf 10 = .ok (.isub, 1) := by decide +kernel
theorem d_Wr_workedOf_11 : decode b_Wr_workedOf 11 = .ok (.iconst 3, 1) := by decide +kernel
theorem d_Wr_workedOf_12 : decode b_Wr_workedOf 12 = .ok (.idiv, 1) := by decide +kernel
theorem d_Wr_workedOf_13 : decode b_Wr_workedOf 13 = .ok (.iconst 1, 1) := by decide +kernel
theorem d_Wr_workedOf_14 : decode b_Wr_workedOf 14 = .ok (.iadd, 1) := by decide +kernel
theorem d_Wr_workedOf_15 : decode b_Wr_workedOf 15 = .ok (.ireturn, 1) := by decide +kernel
def f_Wr_workedOf (x0 : Int32) : Option (Int32) :=
  if x0 = 0 then some (0 : Int32) else some (((x0 - 1) / 3) + 1)
set_option maxHeartbeats 4000000 in
set_option maxRecDepth 100000 in
theorem T_Wr_workedOf_e {p : Program} {l : Launch} {e : Env} {s : State} {m : MethodId} {args : Array Value} {below : List Frame} {meth : Method} {c : Code} {Q : State → Prop} {D : va_G} {cI cJ cZ cN : ClassId} (C : Cx p s m args c b_Wr_workedOf 1 "WardRoster" D cI cJ cZ cN) {x0 : Int32} {ls : Array Slot} (hP : va_P D classes [] s.heap) (hl : lv_has ls 1 [(0, .int x0)]) {r : Int32} (hf : f_Wr_workedOf x0 = some r) (K : ∀ {pc : Nat} {ls : Array Slot}, decode b_Wr_workedOf pc = .ok (.ireturn, 1) → W p l e rm_Wr_workedOf s m args below meth c s.heap [] 0 0 Q (F0 m pc ls [.int r])) : W p l e rm_Wr_workedOf s m args below meth c s.heap [] 0 0 Q (F0 m 0 ls []) := by
  obtain ⟨hx, hb, hml, hown, hts, hK, hN⟩ := id C
  have hf : (if x0 = 0 then some (0 : Int32) else some (((x0 - 1) / 3) + 1) : Option (Int32)) = some r := hf
  refine lv_iload_n hx hb d_Wr_workedOf_0 rfl (lv_at hl 0 rfl) ?_
  refine lv_if_ne (tgt := 8) hx hb d_Wr_workedOf_1 (by decide) (fun hc0 => ?_) (fun hc0 => ?_)
  · have hf := if_f hc0 hf
    refine lv_iload_n hx hb d_Wr_workedOf_8 rfl (lv_at hl 0 rfl) ?_
    refine lv_iconst (v := 1) hx hb d_Wr_workedOf_9 (by decide) ?_
    refine lv_isub hx hb d_Wr_workedOf_10 ?_
    refine lv_iconst (v := 3) hx hb d_Wr_workedOf_11 (by decide) ?_
    refine lv_idiv hx hb d_Wr_workedOf_12 (by decide) ?_
    refine lv_iconst (v := 1) hx hb d_Wr_workedOf_13 (by decide) ?_
    refine lv_iadd hx hb d_Wr_workedOf_14 ?_
    cases hf
    exact K d_Wr_workedOf_15
  · have hf := if_t hc0 hf
    refine lv_iconst (v := 0) hx hb d_Wr_workedOf_4 (by decide) ?_
    refine lv_goto (tgt := 15) hx hb d_Wr_workedOf_5 (by decide) ?_
    cases hf
    exact K d_Wr_workedOf_15
set_option maxHeartbeats 4000000 in
set_option maxRecDepth 100000 in
theorem c_Wr_workedOf {l : Launch} {D : va_G} {cI cJ cZ cN : ClassId} {x0 : Int32} {r : Int32} (hf : f_Wr_workedOf x0 = some r) : CR_i l y_Wr_workedOf w_Wr_workedOf rm_Wr_workedOf [.int x0] D cI cJ cZ cN [] r := by
  refine Met.ofW (cc := b_Wr_workedOf) (maxL := 1) (ret := (some .int)) (by decide) rfl ?_
  intro p e s m args below meth c s₁ B hml hv
  obtain ⟨rfl, hP, hK, hN⟩ := hv
  have hx := B.exec
  have hb := B.bytes
  have hr := B.returns
  have hts := fun w h => atoms_spec (ws := w_Wr_workedOf) B.pre w (List.mem_cons_of_mem _ h)
  have hown : s.vm.findClass "WardRoster" = some m.cls := findClass_of_methodNamed B.named
  have hlocks := B.notSynchronized
  have hl := lv_entry [.int x0] (n := 1) (Nat.le_of_ble_eq_true rfl)
  rw [lg_entry_eq]
  generalize (lg_sl [.int x0] ++ List.replicate (1 - (lg_sl [.int x0]).length) Slot.unset).toArray = ls at hl ⊢
  have hl : lv_has ls 1 [(0, .int x0)] := hl
  exact T_Wr_workedOf_e ⟨hx, hb, hml, hown, hts, hK, hN⟩ hP hl hf (fun hd => W.iret hx hb hr (fun t ht hW => ⟨_, rfl, rfl, ht⟩) (fun _ h => by cases h) hd)
theorem d_Wr_placeBit_0 : decode b_Wr_placeBit 0 = .ok (.bipush 36, 2) := by decide +kernel
theorem d_Wr_placeBit_2 : decode b_Wr_placeBit 2 = .ok (.iconst 2, 1) := by decide +kernel
theorem d_Wr_placeBit_3 : decode b_Wr_placeBit 3 = .ok (.iconst 3, 1) := by decide +kernel
theorem d_Wr_placeBit_4 : decode b_Wr_placeBit 4 = .ok (.iload_n 1, 1) := by decide +kernel
theorem d_Wr_placeBit_5 : decode b_Wr_placeBit 5 = .ok (.imul, 1) := by decide +kernel
theorem d_Wr_placeBit_6 : decode b_Wr_placeBit 6 = .ok (.iload_n 0, 1) := by decide +kernel
theorem d_Wr_placeBit_7 : decode b_Wr_placeBit 7 = .ok (.iadd, 1) := by decide +kernel
theorem d_Wr_placeBit_8 : decode b_Wr_placeBit 8 = .ok (.iconst 1, 1) := by decide +kernel
theorem d_Wr_placeBit_9 : decode b_Wr_placeBit 9 = .ok (.iadd, 1) := by decide +kernel
theorem d_Wr_placeBit_10 : decode b_Wr_placeBit 10 = .ok (.imul, 1) := by decide +kernel
theorem d_Wr_placeBit_11 : decode b_Wr_placeBit 11 = .ok (.isub, 1) := by decide +kernel
theorem d_Wr_placeBit_12 : decode b_Wr_placeBit 12 = .ok (.ireturn, 1) := by decide +kernel
def f_Wr_placeBit (x0 : Int32) (x1 : Int32) : Option (Int32) :=
  some (36 - (2 * (((3 * x1) + x0) + 1)))
set_option maxHeartbeats 4000000 in
set_option maxRecDepth 100000 in
theorem T_Wr_placeBit_e {p : Program} {l : Launch} {e : Env} {s : State} {m : MethodId} {args : Array Value} {below : List Frame} {meth : Method} {c : Code} {Q : State → Prop} {D : va_G} {cI cJ cZ cN : ClassId} (C : Cx p s m args c b_Wr_placeBit 2 "WardRoster" D cI cJ cZ cN) {x0 x1 : Int32} {ls : Array Slot} (hP : va_P D classes [] s.heap) (hl : lv_has ls 2 [(0, .int x0), (1, .int x1)]) {r : Int32} (hf : f_Wr_placeBit x0 x1 = some r) (K : ∀ {pc : Nat} {ls : Array Slot}, decode b_Wr_placeBit pc = .ok (.ireturn, 1) → W p l e rm_Wr_placeBit s m args below meth c s.heap [] 0 0 Q (F0 m pc ls [.int r])) : W p l e rm_Wr_placeBit s m args below meth c s.heap [] 0 0 Q (F0 m 0 ls []) := by
  obtain ⟨hx, hb, hml, hown, hts, hK, hN⟩ := id C
  have hf : (some (36 - (2 * (((3 * x1) + x0) + 1))) : Option (Int32)) = some r := hf
  refine lv_bipush (v := 36) hx hb d_Wr_placeBit_0 (by decide) ?_
  refine lv_iconst (v := 2) hx hb d_Wr_placeBit_2 (by decide) ?_
  refine lv_iconst (v := 3) hx hb d_Wr_placeBit_3 (by decide) ?_
  refine lv_iload_n hx hb d_Wr_placeBit_4 rfl (lv_at hl 1 rfl) ?_
  refine lv_imul hx hb d_Wr_placeBit_5 ?_
  refine lv_iload_n hx hb d_Wr_placeBit_6 rfl (lv_at hl 0 rfl) ?_
  refine lv_iadd hx hb d_Wr_placeBit_7 ?_
  refine lv_iconst (v := 1) hx hb d_Wr_placeBit_8 (by decide) ?_
  refine lv_iadd hx hb d_Wr_placeBit_9 ?_
  refine lv_imul hx hb d_Wr_placeBit_10 ?_
  refine lv_isub hx hb d_Wr_placeBit_11 ?_
  cases hf
  exact K d_Wr_placeBit_12
set_option maxHeartbeats 4000000 in
set_option maxRecDepth 100000 in
theorem c_Wr_placeBit {l : Launch} {D : va_G} {cI cJ cZ cN : ClassId} {x0 x1 : Int32} {r : Int32} (hf : f_Wr_placeBit x0 x1 = some r) : CR_i l y_Wr_placeBit w_Wr_placeBit rm_Wr_placeBit [.int x0, .int x1] D cI cJ cZ cN [] r := by
  refine Met.ofW (cc := b_Wr_placeBit) (maxL := 2) (ret := (some .int)) (by decide) rfl ?_
  intro p e s m args below meth c s₁ B hml hv
  obtain ⟨rfl, hP, hK, hN⟩ := hv
  have hx := B.exec
  have hb := B.bytes
  have hr := B.returns
  have hts := fun w h => atoms_spec (ws := w_Wr_placeBit) B.pre w (List.mem_cons_of_mem _ h)
  have hown : s.vm.findClass "WardRoster" = some m.cls := findClass_of_methodNamed B.named
  have hlocks := B.notSynchronized
  have hl := lv_entry [.int x0, .int x1] (n := 2) (Nat.le_of_ble_eq_true rfl)
  rw [lg_entry_eq]
  generalize (lg_sl [.int x0, .int x1] ++ List.replicate (2 - (lg_sl [.int x0, .int x1]).length) Slot.unset).toArray = ls at hl ⊢
  have hl : lv_has ls 2 [(0, .int x0), (1, .int x1)] := hl
  exact T_Wr_placeBit_e ⟨hx, hb, hml, hown, hts, hK, hN⟩ hP hl hf (fun hd => W.iret hx hb hr (fun t ht hW => ⟨_, rfl, rfl, ht⟩) (fun _ h => by cases h) hd)
theorem d_Wr_stepKey_0 : decode b_Wr_stepKey 0 = .ok (.iload_n 2, 1) := by decide +kernel
theorem d_Wr_stepKey_1 : decode b_Wr_stepKey 1 = .ok (.i2l, 1) := by decide +kernel
theorem d_Wr_stepKey_2 : decode b_Wr_stepKey 2 = .ok (.bipush 36, 2) := by decide +kernel
theorem d_Wr_stepKey_4 : decode b_Wr_stepKey 4 = .ok (.lshl, 1) := by decide +kernel
theorem d_Wr_stepKey_5 : decode b_Wr_stepKey 5 = .ok (.iload_n 1, 1) := by decide +kernel
theorem d_Wr_stepKey_6 : decode b_Wr_stepKey 6 = .ok (.i2l, 1) := by decide +kernel
theorem d_Wr_stepKey_7 : decode b_Wr_stepKey 7 = .ok (.iload_n 0, 1) := by decide +kernel
theorem d_Wr_stepKey_8 : decode b_Wr_stepKey 8 = .ok (.lshl, 1) := by decide +kernel
theorem d_Wr_stepKey_9 : decode b_Wr_stepKey 9 = .ok (.ladd, 1) := by decide +kernel
theorem d_Wr_stepKey_10 : decode b_Wr_stepKey 10 = .ok (.lreturn, 1) := by decide +kernel
def f_Wr_stepKey (x0 : Int32) (x1 : Int32) (x2 : Int32) : Option (Int64) :=
  some ((x2.toInt64 <<< ((36 : Int32).toInt64 &&& 63)) + (x1.toInt64 <<< (x0.toInt64 &&& 63)))
set_option maxHeartbeats 4000000 in
set_option maxRecDepth 100000 in
theorem T_Wr_stepKey_e {p : Program} {l : Launch} {e : Env} {s : State} {m : MethodId} {args : Array Value} {below : List Frame} {meth : Method} {c : Code} {Q : State → Prop} {D : va_G} {cI cJ cZ cN : ClassId} (C : Cx p s m args c b_Wr_stepKey 3 "WardRoster" D cI cJ cZ cN) {x0 x1 x2 : Int32} {ls : Array Slot} (hP : va_P D classes [] s.heap) (hl : lv_has ls 3 [(0, .int x0), (1, .int x1), (2, .int x2)]) {r : Int64} (hf : f_Wr_stepKey x0 x1 x2 = some r) (K : ∀ {pc : Nat} {ls : Array Slot}, decode b_Wr_stepKey pc = .ok (.lreturn, 1) → W p l e rm_Wr_stepKey s m args below meth c s.heap [] 0 0 Q (F0 m pc ls [.long r])) : W p l e rm_Wr_stepKey s m args below meth c s.heap [] 0 0 Q (F0 m 0 ls []) := by
  obtain ⟨hx, hb, hml, hown, hts, hK, hN⟩ := id C
  have hf : (some ((x2.toInt64 <<< ((36 : Int32).toInt64 &&& 63)) + (x1.toInt64 <<< (x0.toInt64 &&& 63))) : Option (Int64)) = some r := hf
  refine lv_iload_n hx hb d_Wr_stepKey_0 rfl (lv_at hl 2 rfl) ?_
  refine lv_i2l hx hb d_Wr_stepKey_1 rfl ?_
  refine lv_bipush (v := 36) hx hb d_Wr_stepKey_2 (by decide) ?_
  refine lv_lshl hx hb d_Wr_stepKey_4 rfl ?_
  refine lv_iload_n hx hb d_Wr_stepKey_5 rfl (lv_at hl 1 rfl) ?_
  refine lv_i2l hx hb d_Wr_stepKey_6 rfl ?_
  refine lv_iload_n hx hb d_Wr_stepKey_7 rfl (lv_at hl 0 rfl) ?_
  refine lv_lshl hx hb d_Wr_stepKey_8 rfl ?_
  refine lv_ladd hx hb d_Wr_stepKey_9 ?_
  cases hf
  exact K d_Wr_stepKey_10
set_option maxHeartbeats 4000000 in
set_option maxRecDepth 100000 in
theorem c_Wr_stepKey {l : Launch} {D : va_G} {cI cJ cZ cN : ClassId} {x0 x1 x2 : Int32} {r : Int64} (hf : f_Wr_stepKey x0 x1 x2 = some r) : CR_l l y_Wr_stepKey w_Wr_stepKey rm_Wr_stepKey [.int x0, .int x1, .int x2] D cI cJ cZ cN [] r := by
  refine Met.ofW (cc := b_Wr_stepKey) (maxL := 3) (ret := (some .long)) (by decide) rfl ?_
  intro p e s m args below meth c s₁ B hml hv
  obtain ⟨rfl, hP, hK, hN⟩ := hv
  have hx := B.exec
  have hb := B.bytes
  have hr := B.returns
  have hts := fun w h => atoms_spec (ws := w_Wr_stepKey) B.pre w (List.mem_cons_of_mem _ h)
  have hown : s.vm.findClass "WardRoster" = some m.cls := findClass_of_methodNamed B.named
  have hlocks := B.notSynchronized
  have hl := lv_entry [.int x0, .int x1, .int x2] (n := 3) (Nat.le_of_ble_eq_true rfl)
  rw [lg_entry_eq]
  generalize (lg_sl [.int x0, .int x1, .int x2] ++ List.replicate (3 - (lg_sl [.int x0, .int x1, .int x2]).length) Slot.unset).toArray = ls at hl ⊢
  have hl : lv_has ls 3 [(0, .int x0), (1, .int x1), (2, .int x2)] := hl
  exact T_Wr_stepKey_e ⟨hx, hb, hml, hown, hts, hK, hN⟩ hP hl hf (fun hd => W.lret hx hb hr (fun t ht hW => ⟨_, rfl, rfl, ht⟩) (fun _ h => by cases h) hd)
theorem d_Wr_shiftAt_0 : decode b_Wr_shiftAt 0 = .ok (.lload_n 0, 1) := by decide +kernel
theorem d_Wr_shiftAt_1 : decode b_Wr_shiftAt 1 = .ok (.iload_n 2, 1) := by decide +kernel
theorem d_Wr_shiftAt_2 : decode b_Wr_shiftAt 2 = .ok (.lshr, 1) := by decide +kernel
theorem d_Wr_shiftAt_3 : decode b_Wr_shiftAt 3 = .ok (.l2i, 1) := by decide +kernel
theorem d_Wr_shiftAt_4 : decode b_Wr_shiftAt 4 = .ok (.iconst 3, 1) := by decide +kernel
theorem d_Wr_shiftAt_5 : decode b_Wr_shiftAt 5 = .ok (.iand, 1) := by decide +kernel
theorem d_Wr_shiftAt_6 : decode b_Wr_shiftAt 6 = .ok (.ireturn, 1) := by decide +kernel
def f_Wr_shiftAt (x0 : Int64) (x2 : Int32) : Option (Int32) :=
  some ((x0 >>> (x2.toInt64 &&& 63)).toInt32 &&& 3)
set_option maxHeartbeats 4000000 in
set_option maxRecDepth 100000 in
theorem T_Wr_shiftAt_e {p : Program} {l : Launch} {e : Env} {s : State} {m : MethodId} {args : Array Value} {below : List Frame} {meth : Method} {c : Code} {Q : State → Prop} {D : va_G} {cI cJ cZ cN : ClassId} (C : Cx p s m args c b_Wr_shiftAt 3 "WardRoster" D cI cJ cZ cN) {x0 : Int64} {x2 : Int32} {ls : Array Slot} (hP : va_P D classes [] s.heap) (hl : lv_has ls 3 [(0, .long x0), (2, .int x2)]) {r : Int32} (hf : f_Wr_shiftAt x0 x2 = some r) (K : ∀ {pc : Nat} {ls : Array Slot}, decode b_Wr_shiftAt pc = .ok (.ireturn, 1) → W p l e rm_Wr_shiftAt s m args below meth c s.heap [] 0 0 Q (F0 m pc ls [.int r])) : W p l e rm_Wr_shiftAt s m args below meth c s.heap [] 0 0 Q (F0 m 0 ls []) := by
  obtain ⟨hx, hb, hml, hown, hts, hK, hN⟩ := id C
  have hf : (some ((x0 >>> (x2.toInt64 &&& 63)).toInt32 &&& 3) : Option (Int32)) = some r := hf
  refine lv_lload_n hx hb d_Wr_shiftAt_0 rfl (lv_at hl 0 rfl) ?_
  refine lv_iload_n hx hb d_Wr_shiftAt_1 rfl (lv_at hl 1 rfl) ?_
  refine lv_lshr hx hb d_Wr_shiftAt_2 rfl ?_
  refine lv_l2i hx hb d_Wr_shiftAt_3 rfl ?_
  refine lv_iconst (v := 3) hx hb d_Wr_shiftAt_4 (by decide) ?_
  refine lv_iand hx hb d_Wr_shiftAt_5 ?_
  cases hf
  exact K d_Wr_shiftAt_6
set_option maxHeartbeats 4000000 in
set_option maxRecDepth 100000 in
theorem c_Wr_shiftAt {l : Launch} {D : va_G} {cI cJ cZ cN : ClassId} {x0 : Int64} {x2 : Int32} {r : Int32} (hf : f_Wr_shiftAt x0 x2 = some r) : CR_i l y_Wr_shiftAt w_Wr_shiftAt rm_Wr_shiftAt [.long x0, .int x2] D cI cJ cZ cN [] r := by
  refine Met.ofW (cc := b_Wr_shiftAt) (maxL := 3) (ret := (some .int)) (by decide) rfl ?_
  intro p e s m args below meth c s₁ B hml hv
  obtain ⟨rfl, hP, hK, hN⟩ := hv
  have hx := B.exec
  have hb := B.bytes
  have hr := B.returns
  have hts := fun w h => atoms_spec (ws := w_Wr_shiftAt) B.pre w (List.mem_cons_of_mem _ h)
  have hown : s.vm.findClass "WardRoster" = some m.cls := findClass_of_methodNamed B.named
  have hlocks := B.notSynchronized
  have hl := lv_entry [.long x0, .int x2] (n := 3) (Nat.le_of_ble_eq_true rfl)
  rw [lg_entry_eq]
  generalize (lg_sl [.long x0, .int x2] ++ List.replicate (3 - (lg_sl [.long x0, .int x2]).length) Slot.unset).toArray = ls at hl ⊢
  have hl : lv_has ls 3 [(0, .long x0), (2, .int x2)] := hl
  exact T_Wr_shiftAt_e ⟨hx, hb, hml, hown, hts, hK, hN⟩ hP hl hf (fun hd => W.iret hx hb hr (fun t ht hW => ⟨_, rfl, rfl, ht⟩) (fun _ h => by cases h) hd)
theorem d_Wr_weightOf_0 : decode b_Wr_weightOf 0 = .ok (.lload_n 0, 1) := by decide +kernel
theorem d_Wr_weightOf_1 : decode b_Wr_weightOf 1 = .ok (.bipush 36, 2) := by decide +kernel
theorem d_Wr_weightOf_3 : decode b_Wr_weightOf 3 = .ok (.lshr, 1) := by decide +kernel
theorem d_Wr_weightOf_4 : decode b_Wr_weightOf 4 = .ok (.l2i, 1) := by decide +kernel
theorem d_Wr_weightOf_5 : decode b_Wr_weightOf 5 = .ok (.ireturn, 1) := by decide +kernel
def f_Wr_weightOf (x0 : Int64) : Option (Int32) :=
  some ((x0 >>> ((36 : Int32).toInt64 &&& 63)).toInt32)
set_option maxHeartbeats 4000000 in
set_option maxRecDepth 100000 in
theorem T_Wr_weightOf_e {p : Program} {l : Launch} {e : Env} {s : State} {m : MethodId} {args : Array Value} {below : List Frame} {meth : Method} {c : Code} {Q : State → Prop} {D : va_G} {cI cJ cZ cN : ClassId} (C : Cx p s m args c b_Wr_weightOf 2 "WardRoster" D cI cJ cZ cN) {x0 : Int64} {ls : Array Slot} (hP : va_P D classes [] s.heap) (hl : lv_has ls 2 [(0, .long x0)]) {r : Int32} (hf : f_Wr_weightOf x0 = some r) (K : ∀ {pc : Nat} {ls : Array Slot}, decode b_Wr_weightOf pc = .ok (.ireturn, 1) → W p l e rm_Wr_weightOf s m args below meth c s.heap [] 0 0 Q (F0 m pc ls [.int r])) : W p l e rm_Wr_weightOf s m args below meth c s.heap [] 0 0 Q (F0 m 0 ls []) := by
  obtain ⟨hx, hb, hml, hown, hts, hK, hN⟩ := id C
  have hf : (some ((x0 >>> ((36 : Int32).toInt64 &&& 63)).toInt32) : Option (Int32)) = some r := hf
  refine lv_lload_n hx hb d_Wr_weightOf_0 rfl (lv_at hl 0 rfl) ?_
  refine lv_bipush (v := 36) hx hb d_Wr_weightOf_1 (by decide) ?_
  refine lv_lshr hx hb d_Wr_weightOf_3 rfl ?_
  refine lv_l2i hx hb d_Wr_weightOf_4 rfl ?_
  cases hf
  exact K d_Wr_weightOf_5
set_option maxHeartbeats 4000000 in
set_option maxRecDepth 100000 in
theorem c_Wr_weightOf {l : Launch} {D : va_G} {cI cJ cZ cN : ClassId} {x0 : Int64} {r : Int32} (hf : f_Wr_weightOf x0 = some r) : CR_i l y_Wr_weightOf w_Wr_weightOf rm_Wr_weightOf [.long x0] D cI cJ cZ cN [] r := by
  refine Met.ofW (cc := b_Wr_weightOf) (maxL := 2) (ret := (some .int)) (by decide) rfl ?_
  intro p e s m args below meth c s₁ B hml hv
  obtain ⟨rfl, hP, hK, hN⟩ := hv
  have hx := B.exec
  have hb := B.bytes
  have hr := B.returns
  have hts := fun w h => atoms_spec (ws := w_Wr_weightOf) B.pre w (List.mem_cons_of_mem _ h)
  have hown : s.vm.findClass "WardRoster" = some m.cls := findClass_of_methodNamed B.named
  have hlocks := B.notSynchronized
  have hl := lv_entry [.long x0] (n := 2) (Nat.le_of_ble_eq_true rfl)
  rw [lg_entry_eq]
  generalize (lg_sl [.long x0] ++ List.replicate (2 - (lg_sl [.long x0]).length) Slot.unset).toArray = ls at hl ⊢
  have hl : lv_has ls 2 [(0, .long x0)] := hl
  exact T_Wr_weightOf_e ⟨hx, hb, hml, hown, hts, hK, hN⟩ hP hl hf (fun hd => W.iret hx hb hr (fun t ht hW => ⟨_, rfl, rfl, ht⟩) (fun _ h => by cases h) hd)
theorem d_Wr_leastOf_0 : decode b_Wr_leastOf 0 = .ok (.ldc2_w 109, 3) := by decide +kernel
theorem d_Wr_leastOf_3 : decode b_Wr_leastOf 3 = .ok (.lstore_n 1, 1) := by decide +kernel
theorem d_Wr_leastOf_4 : decode b_Wr_leastOf 4 = .ok (.iconst 0, 1) := by decide +kernel
theorem d_Wr_leastOf_5 : decode b_Wr_leastOf 5 = .ok (.istore_n 3, 1) := by decide +kernel
theorem d_Wr_leastOf_6 : decode b_Wr_leastOf 6 = .ok (.iload_n 3, 1) := by decide +kernel
theorem d_Wr_leastOf_7 : decode b_Wr_leastOf 7 = .ok (.aload_n 0, 1) := by decide +kernel
theorem d_Wr_leastOf_8 : decode b_Wr_leastOf 8 = .ok (.arraylength, 1) := by decide +kernel
theorem d_Wr_leastOf_9 : decode b_Wr_leastOf 9 = .ok (.if_icmp .ge 17, 3) := by decide +kernel
theorem d_Wr_leastOf_12 : decode b_Wr_leastOf 12 = .ok (.lload_n 1, 1) := by decide +kernel
theorem d_Wr_leastOf_13 : decode b_Wr_leastOf 13 = .ok (.aload_n 0, 1) := by decide +kernel
theorem d_Wr_leastOf_14 : decode b_Wr_leastOf 14 = .ok (.iload_n 3, 1) := by decide +kernel
theorem d_Wr_leastOf_15 : decode b_Wr_leastOf 15 = .ok (.laload, 1) := by decide +kernel
theorem d_Wr_leastOf_16 : decode b_Wr_leastOf 16 = .ok (.invokestatic 204, 3) := by decide +kernel
theorem d_Wr_leastOf_19 : decode b_Wr_leastOf 19 = .ok (.lstore_n 1, 1) := by decide +kernel
theorem d_Wr_leastOf_20 : decode b_Wr_leastOf 20 = .ok (.iinc 3 1, 3) := by decide +kernel
theorem d_Wr_leastOf_23 : decode b_Wr_leastOf 23 = .ok (.goto (-17), 3) := by decide +kernel
theorem d_Wr_leastOf_26 : decode b_Wr_leastOf 26 = .ok (.lload_n 1, 1) := by decide +kernel
theorem d_Wr_leastOf_27 : decode b_Wr_leastOf 27 = .ok (.lreturn, 1) := by decide +kernel
def f_Wr_leastOf_l6 (n0 : Nat) (q0 : (Nat → Int64)) (vv : (Int64 × Int32)) : Option ((Int64 × Int32) ⊕ (Int64 × Int32)) :=
  if (Int32.ofNat n0) ≤ vv.2 then some (.inr (vv.1, vv.2)) else (gl n0 q0 vv.2).bind fun v15 => some (.inl ((if v15 < vv.1 then v15 else vv.1), (vv.2 + 1)))
def f_Wr_leastOf (fu : Nat) (n0 : Nat) (q0 : (Nat → Int64)) : Option (Int64) :=
  (iter (f_Wr_leastOf_l6 n0 q0) fu ((4611686018427387904 : Int64), (0 : Int32))).bind fun r6 => some r6.1
set_option maxHeartbeats 4000000 in
set_option maxRecDepth 100000 in
theorem T_Wr_leastOf_l6 {p : Program} {l : Launch} {e : Env} {s : State} {m : MethodId} {args : Array Value} {below : List Frame} {meth : Method} {c : Code} {Q : State → Prop} {D : va_G} {cI cJ cZ cN : ClassId} (C : Cx p s m args c b_Wr_leastOf 4 "WardRoster" D cI cJ cZ cN) {ra0 : Nat} {n0 : Nat} {x1 : Int64} {x3 : Int32} {q0 : (Nat → Int64)} {ls : Array Slot} (hP : va_P D classes [(ra0, .inl (cJ, n0, .inr (.inl q0)))] s.heap) (hl : lv_has ls 4 [(0, .ref ra0), (1, .long x1), (3, .int x3)]) {q : (Int64 × Int32) ⊕ (Int64 × Int32)} (hf : f_Wr_leastOf_l6 n0 q0 (x1, x3) = some q) (Kc : ∀ v : (Int64 × Int32), q = .inl v → ∀ {ls : Array Slot}, lv_has ls 4 [(0, .ref ra0), (1, .long v.1), (3, .int v.2)] → W p l e rm_Wr_leastOf s m args below meth c s.heap [] 0 0 Q (F0 m 6 ls [])) (Ke : ∀ v : (Int64 × Int32), q = .inr v → ∀ {ls : Array Slot}, lv_has ls 4 [(1, .long v.1)] → W p l e rm_Wr_leastOf s m args below meth c s.heap [] 0 0 Q (F0 m 26 ls [])) : W p l e rm_Wr_leastOf s m args below meth c s.heap [] 0 0 Q (F0 m 6 ls []) := by
  obtain ⟨hx, hb, hml, hown, hts, hK, hN⟩ := id C
  have hf : (if (Int32.ofNat n0) ≤ x3 then some (.inr (x1, x3)) else (gl n0 q0 x3).bind fun v15 => some (.inl ((if v15 < x1 then v15 else x1), (x3 + 1))) : Option ((Int64 × Int32) ⊕ (Int64 × Int32))) = some q := hf
  refine lv_iload_n hx hb d_Wr_leastOf_6 rfl (lv_at hl 2 rfl) ?_
  refine lv_aload_n hx hb d_Wr_leastOf_7 rfl (lv_at hl 0 rfl) ?_
  refine va_alen (v := (Int32.ofNat n0)) hx hb hK hP 0 1 rfl rfl (by first | rfl | decide) d_Wr_leastOf_8 ?_
  refine lv_icmp_ge (tgt := 26) hx hb d_Wr_leastOf_9 (by decide) (fun hc0 => ?_) (fun hc0 => ?_)
  · have hf := if_t hc0 hf
    cases hf
    exact Ke _ rfl (lv_sub hl [1] rfl)
  · have hf := if_f hc0 hf
    refine lv_lload_n hx hb d_Wr_leastOf_12 rfl (lv_at hl 1 rfl) ?_
    refine lv_aload_n hx hb d_Wr_leastOf_13 rfl (lv_at hl 0 rfl) ?_
    refine lv_iload_n hx hb d_Wr_leastOf_14 rfl (lv_at hl 2 rfl) ?_
    obtain ⟨v15, hv15, hf⟩ := ob hf
    refine ga_l hx hb hK hP 0 1 rfl rfl hv15 d_Wr_leastOf_15 ?_
    refine va_mmin_long hx hb (by rw [hml]; exact hl.1.symm) hown (hts _ gw_1) (hts _ gw_2) (hts _ gw_3) (hts _ gw_4) (by decide) (Nat.le_of_ble_eq_true rfl) (by decide) (by decide) d_Wr_leastOf_16 ?_
    refine lv_lstore_n (lv' := [(1, .long (if v15 < x1 then v15 else x1)), (0, .ref ra0), (3, .int x3)]) hx hb d_Wr_leastOf_19 rfl hl (by decide) rfl (fun ls hl => ?_)
    refine lv_iinc (k := 2) (v := (x3 + 1)) (lv' := [(3, .int (x3 + 1)), (1, .long (if v15 < x1 then v15 else x1)), (0, .ref ra0)]) hx hb d_Wr_leastOf_20 hl rfl (ii_1 _) (by decide) rfl (fun ls hl => ?_)
    refine lv_goto (tgt := 6) hx hb d_Wr_leastOf_23 (by decide) ?_
    cases hf
    exact Kc _ rfl (lv_sub hl [2, 1, 0] rfl)
set_option maxHeartbeats 4000000 in
set_option maxRecDepth 100000 in
theorem L_Wr_leastOf_6 {p : Program} {l : Launch} {e : Env} {s : State} {m : MethodId} {args : Array Value} {below : List Frame} {meth : Method} {c : Code} {Q : State → Prop} {D : va_G} {cI cJ cZ cN : ClassId} (C : Cx p s m args c b_Wr_leastOf 4 "WardRoster" D cI cJ cZ cN) {ra0 : Nat} {n0 : Nat} {q0 : (Nat → Int64)} : ∀ (n : Nat) (vv : (Int64 × Int32)) {ls : Array Slot}, va_P D classes [(ra0, .inl (cJ, n0, .inr (.inl q0)))] s.heap → lv_has ls 4 [(0, .ref ra0), (1, .long vv.1), (3, .int vv.2)] → ∀ {r : (Int64 × Int32)}, iter (f_Wr_leastOf_l6 n0 q0) n vv = some r → (∀ {ls : Array Slot}, lv_has ls 4 [(1, .long r.1)] → W p l e rm_Wr_leastOf s m args below meth c s.heap [] 0 0 Q (F0 m 26 ls [])) → W p l e rm_Wr_leastOf s m args below meth c s.heap [] 0 0 Q (F0 m 6 ls []) := by
  intro n
  induction n with
  | zero => intro vv ls hP hl r hf K; cases hf
  | succ n ih =>
    intro vv ls hP hl r hf K
    obtain ⟨q, h1, h2⟩ := it_s hf
    refine T_Wr_leastOf_l6 C hP hl (q := q) h1 (fun v e => ?_) (fun v e => ?_)
    · subst e
      intro ls hl; exact ih v hP hl h2 K
    · subst e
      cases h2
      intro ls hl; exact K hl
set_option maxHeartbeats 4000000 in
set_option maxRecDepth 100000 in
theorem T_Wr_leastOf_e {p : Program} {l : Launch} {e : Env} {s : State} {m : MethodId} {args : Array Value} {below : List Frame} {meth : Method} {c : Code} {Q : State → Prop} {D : va_G} {cI cJ cZ cN : ClassId} (C : Cx p s m args c b_Wr_leastOf 4 "WardRoster" D cI cJ cZ cN) {ra0 : Nat} {n0 : Nat} {fu : Nat} {q0 : (Nat → Int64)} {ls : Array Slot} (hP : va_P D classes [(ra0, .inl (cJ, n0, .inr (.inl q0)))] s.heap) (hl : lv_has ls 4 [(0, .ref ra0)]) {r : Int64} (hf : f_Wr_leastOf fu n0 q0 = some r) (K : ∀ {pc : Nat} {ls : Array Slot}, decode b_Wr_leastOf pc = .ok (.lreturn, 1) → W p l e rm_Wr_leastOf s m args below meth c s.heap [] 0 0 Q (F0 m pc ls [.long r])) : W p l e rm_Wr_leastOf s m args below meth c s.heap [] 0 0 Q (F0 m 0 ls []) := by
  obtain ⟨hx, hb, hml, hown, hts, hK, hN⟩ := id C
  have hf : ((iter (f_Wr_leastOf_l6 n0 q0) fu ((4611686018427387904 : Int64), (0 : Int32))).bind fun r6 => some r6.1 : Option (Int64)) = some r := hf
  refine lv_ldc2 (v := 4611686018427387904) hx hb hown (hts _ gw_0) d_Wr_leastOf_0 ?_
  refine lv_lstore_n (lv' := [(1, .long 4611686018427387904), (0, .ref ra0)]) hx hb d_Wr_leastOf_3 rfl hl (by decide) rfl (fun ls hl => ?_)
  refine lv_iconst (v := 0) hx hb d_Wr_leastOf_4 (by decide) ?_
  refine lv_istore_n (lv' := [(3, .int 0), (1, .long 4611686018427387904), (0, .ref ra0)]) hx hb d_Wr_leastOf_5 rfl hl (by decide) rfl (fun ls hl => ?_)
  obtain ⟨r6, h6, hf⟩ := ob hf
  refine L_Wr_leastOf_6 C fu _ hP (lv_sub hl [2, 1, 0] rfl) h6 (fun {ls : Array Slot} hl => ?_)
  have hl : lv_has _ 4 [(1, .long r6.1)] := hl
  refine lv_lload_n hx hb d_Wr_leastOf_26 rfl (lv_at hl 0 rfl) ?_
  cases hf
  exact K d_Wr_leastOf_27
set_option maxHeartbeats 4000000 in
set_option maxRecDepth 100000 in
theorem c_Wr_leastOf {l : Launch} {D : va_G} {cI cJ cZ cN : ClassId} {ra0 : Nat} {n0 : Nat} {fu : Nat} {q0 : (Nat → Int64)} {r : Int64} (hf : f_Wr_leastOf fu n0 q0 = some r) : CR_l l y_Wr_leastOf w_Wr_leastOf rm_Wr_leastOf [.ref ra0] D cI cJ cZ cN [(ra0, .inl (cJ, n0, .inr (.inl q0)))] r := by
  refine Met.ofW (cc := b_Wr_leastOf) (maxL := 4) (ret := (some .long)) (by decide) rfl ?_
  intro p e s m args below meth c s₁ B hml hv
  obtain ⟨rfl, hP, hK, hN⟩ := hv
  have hx := B.exec
  have hb := B.bytes
  have hr := B.returns
  have hts := fun w h => atoms_spec (ws := w_Wr_leastOf) B.pre w (List.mem_cons_of_mem _ h)
  have hown : s.vm.findClass "WardRoster" = some m.cls := findClass_of_methodNamed B.named
  have hlocks := B.notSynchronized
  have hl := lv_entry [.ref ra0] (n := 4) (Nat.le_of_ble_eq_true rfl)
  rw [lg_entry_eq]
  generalize (lg_sl [.ref ra0] ++ List.replicate (4 - (lg_sl [.ref ra0]).length) Slot.unset).toArray = ls at hl ⊢
  have hl : lv_has ls 4 [(0, .ref ra0)] := hl
  exact T_Wr_leastOf_e ⟨hx, hb, hml, hown, hts, hK, hN⟩ hP hl hf (fun hd => W.lret hx hb hr (fun t ht hW => ⟨_, rfl, rfl, ht⟩) (fun _ h => by cases h) hd)
theorem d_Rs_strideOf_0 : decode b_Rs_strideOf 0 = .ok (.iload_n 0, 1) := by decide +kernel
theorem d_Rs_strideOf_1 : decode b_Rs_strideOf 1 = .ok (.ifCond .ne 9, 3) := by decide +kernel
theorem d_Rs_strideOf_4 : decode b_Rs_strideOf 4 = .ok (.sipush 169, 3) := by decide +kernel
theorem d_Rs_strideOf_7 : decode b_Rs_strideOf 7 = .ok (.goto 14, 3) := by decide +kernel
theorem d_Rs_strideOf_10 : decode b_Rs_strideOf 10 = .ok (.iload_n 0, 1) := by decide +kernel
theorem d_Rs_strideOf_11 : decode b_Rs_strideOf 11 = .ok (.iconst 1, 1) := by decide +kernel
theorem d_Rs_strideOf_12 : decode b_Rs_strideOf 12 = .ok (.if_icmp .ne 8, 3) := by decide +kernel
theorem d_Rs_strideOf_15 : decode b_Rs_strideOf 15 = .ok (.bipush 13, 2) := by decide +kernel
theorem d_Rs_strideOf_17 : decode b_Rs_strideOf 17 = .ok (.goto 4, 3) := by decide +kernel
theorem d_Rs_strideOf_20 : decode b_Rs_strideOf 20 = .ok (.iconst 1, 1) := by decide +kernel
theorem d_Rs_strideOf_21 : decode b_Rs_strideOf 21 = .ok (.ireturn, 1) := by decide +kernel
def f_Rs_strideOf (x0 : Int32) : Option (Int32) :=
  if x0 = 0 then some (169 : Int32) else if x0 = 1 then some (13 : Int32) else some (1 : Int32)
set_option maxHeartbeats 4000000 in
set_option maxRecDepth 100000 in
theorem T_Rs_strideOf_e {p : Program} {l : Launch} {e : Env} {s : State} {m : MethodId} {args : Array Value} {below : List Frame} {meth : Method} {c : Code} {Q : State → Prop} {D : va_G} {cI cJ cZ cN : ClassId} (C : Cx p s m args c b_Rs_strideOf 1 "WardRoster$RosterSearch" D cI cJ cZ cN) {x0 : Int32} {ls : Array Slot} (hP : va_P D classes [] s.heap) (hl : lv_has ls 1 [(0, .int x0)]) {r : Int32} (hf : f_Rs_strideOf x0 = some r) (K : ∀ {pc : Nat} {ls : Array Slot}, decode b_Rs_strideOf pc = .ok (.ireturn, 1) → W p l e rm_Rs_strideOf s m args below meth c s.heap [] 0 0 Q (F0 m pc ls [.int r])) : W p l e rm_Rs_strideOf s m args below meth c s.heap [] 0 0 Q (F0 m 0 ls []) := by
  obtain ⟨hx, hb, hml, hown, hts, hK, hN⟩ := id C
  have hf : (if x0 = 0 then some (169 : Int32) else if x0 = 1 then some (13 : Int32) else some (1 : Int32) : Option (Int32)) = some r := hf
  refine lv_iload_n hx hb d_Rs_strideOf_0 rfl (lv_at hl 0 rfl) ?_
  refine lv_if_ne (tgt := 10) hx hb d_Rs_strideOf_1 (by decide) (fun hc0 => ?_) (fun hc0 => ?_)
  · have hf := if_f hc0 hf
    refine lv_iload_n hx hb d_Rs_strideOf_10 rfl (lv_at hl 0 rfl) ?_
    refine lv_iconst (v := 1) hx hb d_Rs_strideOf_11 (by decide) ?_
    refine lv_icmp_ne (tgt := 20) hx hb d_Rs_strideOf_12 (by decide) (fun hc0 => ?_) (fun hc0 => ?_)
    · have hf := if_f hc0 hf
      refine lv_iconst (v := 1) hx hb d_Rs_strideOf_20 (by decide) ?_
      cases hf
      exact K d_Rs_strideOf_21
    · have hf := if_t hc0 hf
      refine lv_bipush (v := 13) hx hb d_Rs_strideOf_15 (by decide) ?_
      refine lv_goto (tgt := 21) hx hb d_Rs_strideOf_17 (by decide) ?_
      cases hf
      exact K d_Rs_strideOf_21
  · have hf := if_t hc0 hf
    refine lv_sipush (v := 169) hx hb d_Rs_strideOf_4 (by decide) ?_
    refine lv_goto (tgt := 21) hx hb d_Rs_strideOf_7 (by decide) ?_
    cases hf
    exact K d_Rs_strideOf_21
set_option maxHeartbeats 4000000 in
set_option maxRecDepth 100000 in
theorem c_Rs_strideOf {l : Launch} {D : va_G} {cI cJ cZ cN : ClassId} {x0 : Int32} {r : Int32} (hf : f_Rs_strideOf x0 = some r) : CR_i l y_Rs_strideOf w_Rs_strideOf rm_Rs_strideOf [.int x0] D cI cJ cZ cN [] r := by
  refine Met.ofW (cc := b_Rs_strideOf) (maxL := 1) (ret := (some .int)) (by decide) rfl ?_
  intro p e s m args below meth c s₁ B hml hv
  obtain ⟨rfl, hP, hK, hN⟩ := hv
  have hx := B.exec
  have hb := B.bytes
  have hr := B.returns
  have hts := fun w h => atoms_spec (ws := w_Rs_strideOf) B.pre w (List.mem_cons_of_mem _ h)
  have hown : s.vm.findClass "WardRoster$RosterSearch" = some m.cls := findClass_of_methodNamed B.named
  have hlocks := B.notSynchronized
  have hl := lv_entry [.int x0] (n := 1) (Nat.le_of_ble_eq_true rfl)
  rw [lg_entry_eq]
  generalize (lg_sl [.int x0] ++ List.replicate (1 - (lg_sl [.int x0]).length) Slot.unset).toArray = ls at hl ⊢
  have hl : lv_has ls 1 [(0, .int x0)] := hl
  exact T_Rs_strideOf_e ⟨hx, hb, hml, hown, hts, hK, hN⟩ hP hl hf (fun hd => W.iret hx hb hr (fun t ht hW => ⟨_, rfl, rfl, ht⟩) (fun _ h => by cases h) hd)
