theorem d_Nu_clear_0 : decode b_Nu_clear 0 = .ok (.aload_n 0, 1) := by decide +kernel
theorem d_Nu_clear_1 : decode b_Nu_clear 1 = .ok (.iload_n 1, 1) := by decide +kernel
theorem d_Nu_clear_2 : decode b_Nu_clear 2 = .ok (.putfield 25, 3) := by decide +kernel
theorem d_Nu_clear_5 : decode b_Nu_clear 5 = .ok (.aload_n 0, 1) := by decide +kernel
theorem d_Nu_clear_6 : decode b_Nu_clear 6 = .ok (.getfield 9, 3) := by decide +kernel
theorem d_Nu_clear_9 : decode b_Nu_clear 9 = .ok (.iconst 0, 1) := by decide +kernel
theorem d_Nu_clear_10 : decode b_Nu_clear 10 = .ok (.invokestatic 28, 3) := by decide +kernel
theorem d_Nu_clear_13 : decode b_Nu_clear 13 = .ok (.aload_n 0, 1) := by decide +kernel
theorem d_Nu_clear_14 : decode b_Nu_clear 14 = .ok (.getfield 15, 3) := by decide +kernel
theorem d_Nu_clear_17 : decode b_Nu_clear 17 = .ok (.iconst 0, 1) := by decide +kernel
theorem d_Nu_clear_18 : decode b_Nu_clear 18 = .ok (.invokestatic 28, 3) := by decide +kernel
theorem d_Nu_clear_21 : decode b_Nu_clear 21 = .ok (.aload_n 0, 1) := by decide +kernel
theorem d_Nu_clear_22 : decode b_Nu_clear 22 = .ok (.getfield 18, 3) := by decide +kernel
theorem d_Nu_clear_25 : decode b_Nu_clear 25 = .ok (.iconst (-1), 1) := by decide +kernel
theorem d_Nu_clear_26 : decode b_Nu_clear 26 = .ok (.invokestatic 28, 3) := by decide +kernel
theorem d_Nu_clear_29 : decode b_Nu_clear 29 = .ok (.aload_n 0, 1) := by decide +kernel
theorem d_Nu_clear_30 : decode b_Nu_clear 30 = .ok (.iconst 0, 1) := by decide +kernel
theorem d_Nu_clear_31 : decode b_Nu_clear 31 = .ok (.putfield 34, 3) := by decide +kernel
theorem d_Nu_clear_34 : decode b_Nu_clear 34 = .ok (.aload_n 0, 1) := by decide +kernel
theorem d_Nu_clear_35 : decode b_Nu_clear 35 = .ok (.iconst 4, 1) := by decide +kernel
theorem d_Nu_clear_36 : decode b_Nu_clear 36 = .ok (.putfield 37, 3) := by decide +kernel
theorem d_Nu_clear_39 : decode b_Nu_clear 39 = .ok (.aload_n 0, 1) := by decide +kernel
theorem d_Nu_clear_40 : decode b_Nu_clear 40 = .ok (.iconst 0, 1) := by decide +kernel
theorem d_Nu_clear_41 : decode b_Nu_clear 41 = .ok (.putfield 40, 3) := by decide +kernel
theorem d_Nu_clear_44 : decode b_Nu_clear 44 = .ok (.return_, 1) := by decide +kernel
def f_Nu_clear (fu : Nat) (x1 : Int32) (nu_shiftCosts : (Nat → Int32)) (nu_pairCosts : (Nat → Int32)) (nu_fixedShifts : (Nat → Int32)) : Option (Int32 × Int32 × Int32 × Int32 × (Nat → Int32) × (Nat → Int32) × (Nat → Int32)) :=
  (f_Ar_fill_I fu (0 : Int32) 24 nu_shiftCosts).bind fun r10 => (f_Ar_fill_I fu (0 : Int32) 16 nu_pairCosts).bind fun r18 => (f_Ar_fill_I fu ((-1) : Int32) 6 nu_fixedShifts).bind fun r26 => some (0, 4, 0, x1, r10, r18, r26)
set_option maxHeartbeats 4000000 in
set_option maxRecDepth 100000 in
theorem T_Nu_clear_e {p : Program} {l : Launch} {e : Env} {s : State} {m : MethodId} {args : Array Value} {below : List Frame} {meth : Method} {c : Code} {Q : State → Prop} {D : va_G} {cI cJ cZ cN : ClassId} {A : Nat → Prop} (C : Cx p s m args c b_Nu_clear 2 "WardRoster$Nurse" D cI cJ cZ cN) (hA : ∀ q, s.heap.size ≤ q → A q) {h h_shiftCosts h_pairCosts h_fixedShifts : Nat} {fu : Nat} {x1 nu_number nu_forbidden nu_longest nu_start nu_dayCount : Int32} {nu_shiftCosts nu_pairCosts nu_fixedShifts : (Nat → Int32)} {ls : Array Slot} {H : Heap} {locs : List Loc} (hP : va_P D classes [(h, .inr (0, [.int nu_number, .ref h_shiftCosts, .ref h_pairCosts, .ref h_fixedShifts, .int nu_forbidden, .int nu_longest, .int nu_start, .int nu_dayCount])), (h_shiftCosts, .inl (cI, 24, .inl nu_shiftCosts)), (h_pairCosts, .inl (cI, 16, .inl nu_pairCosts)), (h_fixedShifts, .inl (cI, 6, .inl nu_fixedShifts))] H) (hD : va_D A [(h, .inr (0, [.int nu_number, .ref h_shiftCosts, .ref h_pairCosts, .ref h_fixedShifts, .int nu_forbidden, .int nu_longest, .int nu_start, .int nu_dayCount])), (h_shiftCosts, .inl (cI, 24, .inl nu_shiftCosts)), (h_pairCosts, .inl (cI, 16, .inl nu_pairCosts)), (h_fixedShifts, .inl (cI, 6, .inl nu_fixedShifts))]) (hS : va_S A s.heap H locs) (hl : lv_has ls 2 [(0, .ref h), (1, .int x1)]) {r : Int32 × Int32 × Int32 × Int32 × (Nat → Int32) × (Nat → Int32) × (Nat → Int32)} (hf : f_Nu_clear fu x1 nu_shiftCosts nu_pairCosts nu_fixedShifts = some r) (K : ∀ {pc : Nat} {ls : Array Slot} {H : Heap} {locs : List Loc}, decode b_Nu_clear pc = .ok (.return_, 1) → va_P D classes [(h, .inr (0, [.int nu_number, .ref h_shiftCosts, .ref h_pairCosts, .ref h_fixedShifts, .int r.1, .int r.2.1, .int r.2.2.1, .int r.2.2.2.1])), (h_shiftCosts, .inl (cI, 24, .inl r.2.2.2.2.1)), (h_pairCosts, .inl (cI, 16, .inl r.2.2.2.2.2.1)), (h_fixedShifts, .inl (cI, 6, .inl r.2.2.2.2.2.2))] H → va_D A [(h, .inr (0, [.int nu_number, .ref h_shiftCosts, .ref h_pairCosts, .ref h_fixedShifts, .int r.1, .int r.2.1, .int r.2.2.1, .int r.2.2.2.1])), (h_shiftCosts, .inl (cI, 24, .inl r.2.2.2.2.1)), (h_pairCosts, .inl (cI, 16, .inl r.2.2.2.2.2.1)), (h_fixedShifts, .inl (cI, 6, .inl r.2.2.2.2.2.2))] → va_S A s.heap H locs → W p l e rm_Nu_clear s m args below meth c H locs 0 0 Q (F0 m pc ls [])) : W p l e rm_Nu_clear s m args below meth c H locs 0 0 Q (F0 m 0 ls []) := by
  obtain ⟨hx, hb, hml, hown, hts, hK, hN⟩ := id C
  have hf : ((f_Ar_fill_I fu (0 : Int32) 24 nu_shiftCosts).bind fun r10 => (f_Ar_fill_I fu (0 : Int32) 16 nu_pairCosts).bind fun r18 => (f_Ar_fill_I fu ((-1) : Int32) 6 nu_fixedShifts).bind fun r26 => some (0, 4, 0, x1, r10, r18, r26) : Option (Int32 × Int32 × Int32 × Int32 × (Nat → Int32) × (Nat → Int32) × (Nat → Int32))) = some r := hf
  refine lv_aload_n hx hb d_Nu_clear_0 rfl (lv_at hl 0 rfl) ?_
  refine lv_iload_n hx hb d_Nu_clear_1 rfl (lv_at hl 1 rfl) ?_
  refine va_put (D := D) (ci := 0) (v := .int x1) (ty := .int) (C := "WardRoster$Nurse") (T := F_Nu) (N := 8) hx hb hts in_Nu t_Nu t_Nu_ok n_Nu hown hK hP hD hS 0 rfl rfl 7 (by decide) (hts _ gw_5) (fun _ h9 => h9) rfl (by decide +kernel) rfl rfl (Nat.le_of_ble_eq_true rfl) d_Nu_clear_2 (fun H locs hP hD hS => ?_)
  have hP : va_P D classes [(h, .inr (0, [.int nu_number, .ref h_shiftCosts, .ref h_pairCosts, .ref h_fixedShifts, .int nu_forbidden, .int nu_longest, .int nu_start, .int x1])), (h_shiftCosts, .inl (cI, 24, .inl nu_shiftCosts)), (h_pairCosts, .inl (cI, 16, .inl nu_pairCosts)), (h_fixedShifts, .inl (cI, 6, .inl nu_fixedShifts))] _ := hP
  have hD : va_D A [(h, .inr (0, [.int nu_number, .ref h_shiftCosts, .ref h_pairCosts, .ref h_fixedShifts, .int nu_forbidden, .int nu_longest, .int nu_start, .int x1])), (h_shiftCosts, .inl (cI, 24, .inl nu_shiftCosts)), (h_pairCosts, .inl (cI, 16, .inl nu_pairCosts)), (h_fixedShifts, .inl (cI, 6, .inl nu_fixedShifts))] := hD
  refine lv_aload_n hx hb d_Nu_clear_5 rfl (lv_at hl 0 rfl) ?_
  refine va_get (D := D) (ci := 0) (v := .ref h_shiftCosts) (C := "WardRoster$Nurse") (T := F_Nu) (N := 8) hx hb hts in_Nu hown hK hP 0 rfl rfl 1 (by decide) (hts _ gw_6) (fun _ h9 => h9) rfl d_Nu_clear_6 ?_
  refine lv_iconst (v := 0) hx hb d_Nu_clear_9 (by decide) ?_
  obtain ⟨r10, hr10, hf⟩ := ob hf
  have hPc := hP.sub (ws' := [(h_shiftCosts, .inl (cI, 24, .inl nu_shiftCosts))]) [1] rfl
  have hDc := hD.sub (ws' := [(h_shiftCosts, .inl (cI, 24, .inl nu_shiftCosts))]) [1] (by decide) rfl
  have hFc := va_free (wc := [(h_shiftCosts, .inl (cI, 24, .inl nu_shiftCosts))]) hD hS hA [1] rfl
  refine va_callv (va_runS (As := [.ref h_shiftCosts, .int 0]) (rest := []) ⟨hx, hb, hml, hown, hts⟩ (c_Ar_fill_I hr10 _) ⟨callB_of 2 hts (gd gw_7) rfl rfl rfl (hts _ gw_8) (hts _ gw_9) hd_Ar_fill_I ⟨by decide, by decide⟩, (hts _ gw_10)⟩ (preSW hK hN hPc hDc) rfl rfl hl.1 rfl (lv_room (Nat.le_of_ble_eq_true rfl)) d_Nu_clear_10 ⟨by decide, by decide⟩) hS (fun q _ h => hFc q h) hFc (fun w1 t H1 locs ht hvm hw hB hz1 hk1 hS => ?_)
  obtain rfl := hw
  obtain ⟨hP1, hD1⟩ := hB
  rw [ht] at hP1
  obtain ⟨hP, hD⟩ := va_join (wr := [(h, .inr (0, [.int nu_number, .ref h_shiftCosts, .ref h_pairCosts, .ref h_fixedShifts, .int nu_forbidden, .int nu_longest, .int nu_start, .int x1])), (h_pairCosts, .inl (cI, 16, .inl nu_pairCosts)), (h_fixedShifts, .inl (cI, 6, .inl nu_fixedShifts))]) (w1 := [(h_shiftCosts, .inl (cI, 24, .inl r10))]) hP hD [1] [0, 2, 3] rfl rfl (by decide) (by decide) hk1 hFc hP1 hD1
  have hP := hP.sub (ws' := [(h, .inr (0, [.int nu_number, .ref h_shiftCosts, .ref h_pairCosts, .ref h_fixedShifts, .int nu_forbidden, .int nu_longest, .int nu_start, .int x1])), (h_shiftCosts, .inl (cI, 24, .inl r10)), (h_pairCosts, .inl (cI, 16, .inl nu_pairCosts)), (h_fixedShifts, .inl (cI, 6, .inl nu_fixedShifts))]) [0, 3, 1, 2] rfl
  have hD := hD.sub (ws' := [(h, .inr (0, [.int nu_number, .ref h_shiftCosts, .ref h_pairCosts, .ref h_fixedShifts, .int nu_forbidden, .int nu_longest, .int nu_start, .int x1])), (h_shiftCosts, .inl (cI, 24, .inl r10)), (h_pairCosts, .inl (cI, 16, .inl nu_pairCosts)), (h_fixedShifts, .inl (cI, 6, .inl nu_fixedShifts))]) [0, 3, 1, 2] (by decide) rfl
  refine lv_aload_n hx hb d_Nu_clear_13 rfl (lv_at hl 0 rfl) ?_
  refine va_get (D := D) (ci := 0) (v := .ref h_pairCosts) (C := "WardRoster$Nurse") (T := F_Nu) (N := 8) hx hb hts in_Nu hown hK hP 0 rfl rfl 2 (by decide) (hts _ gw_11) (fun _ h9 => h9) rfl d_Nu_clear_14 ?_
  refine lv_iconst (v := 0) hx hb d_Nu_clear_17 (by decide) ?_
  obtain ⟨r18, hr18, hf⟩ := ob hf
  have hPc := hP.sub (ws' := [(h_pairCosts, .inl (cI, 16, .inl nu_pairCosts))]) [2] rfl
  have hDc := hD.sub (ws' := [(h_pairCosts, .inl (cI, 16, .inl nu_pairCosts))]) [2] (by decide) rfl
  have hFc := va_free (wc := [(h_pairCosts, .inl (cI, 16, .inl nu_pairCosts))]) hD hS hA [2] rfl
  refine va_callv (va_runS (As := [.ref h_pairCosts, .int 0]) (rest := []) ⟨hx, hb, hml, hown, hts⟩ (c_Ar_fill_I hr18 _) ⟨callB_of 2 hts (gd gw_7) rfl rfl rfl (hts _ gw_8) (hts _ gw_9) hd_Ar_fill_I ⟨by decide, by decide⟩, (hts _ gw_10)⟩ (preSW hK hN hPc hDc) rfl rfl hl.1 rfl (lv_room (Nat.le_of_ble_eq_true rfl)) d_Nu_clear_18 ⟨by decide, by decide⟩) hS (fun q _ h => hFc q h) hFc (fun w1 t H1 locs ht hvm hw hB hz1 hk1 hS => ?_)
  obtain rfl := hw
  obtain ⟨hP1, hD1⟩ := hB
  rw [ht] at hP1
  obtain ⟨hP, hD⟩ := va_join (wr := [(h, .inr (0, [.int nu_number, .ref h_shiftCosts, .ref h_pairCosts, .ref h_fixedShifts, .int nu_forbidden, .int nu_longest, .int nu_start, .int x1])), (h_shiftCosts, .inl (cI, 24, .inl r10)), (h_fixedShifts, .inl (cI, 6, .inl nu_fixedShifts))]) (w1 := [(h_pairCosts, .inl (cI, 16, .inl r18))]) hP hD [2] [0, 1, 3] rfl rfl (by decide) (by decide) hk1 hFc hP1 hD1
  have hP := hP.sub (ws' := [(h, .inr (0, [.int nu_number, .ref h_shiftCosts, .ref h_pairCosts, .ref h_fixedShifts, .int nu_forbidden, .int nu_longest, .int nu_start, .int x1])), (h_shiftCosts, .inl (cI, 24, .inl r10)), (h_pairCosts, .inl (cI, 16, .inl r18)), (h_fixedShifts, .inl (cI, 6, .inl nu_fixedShifts))]) [0, 1, 3, 2] rfl
  have hD := hD.sub (ws' := [(h, .inr (0, [.int nu_number, .ref h_shiftCosts, .ref h_pairCosts, .ref h_fixedShifts, .int nu_forbidden, .int nu_longest, .int nu_start, .int x1])), (h_shiftCosts, .inl (cI, 24, .inl r10)), (h_pairCosts, .inl (cI, 16, .inl r18)), (h_fixedShifts, .inl (cI, 6, .inl nu_fixedShifts))]) [0, 1, 3, 2] (by decide) rfl
  refine lv_aload_n hx hb d_Nu_clear_21 rfl (lv_at hl 0 rfl) ?_
  refine va_get (D := D) (ci := 0) (v := .ref h_fixedShifts) (C := "WardRoster$Nurse") (T := F_Nu) (N := 8) hx hb hts in_Nu hown hK hP 0 rfl rfl 3 (by decide) (hts _ gw_12) (fun _ h9 => h9) rfl d_Nu_clear_22 ?_
  refine lv_iconst (v := (-1)) hx hb d_Nu_clear_25 (by decide) ?_
  obtain ⟨r26, hr26, hf⟩ := ob hf
  have hPc := hP.sub (ws' := [(h_fixedShifts, .inl (cI, 6, .inl nu_fixedShifts))]) [3] rfl
  have hDc := hD.sub (ws' := [(h_fixedShifts, .inl (cI, 6, .inl nu_fixedShifts))]) [3] (by decide) rfl
  have hFc := va_free (wc := [(h_fixedShifts, .inl (cI, 6, .inl nu_fixedShifts))]) hD hS hA [3] rfl
  refine va_callv (va_runS (As := [.ref h_fixedShifts, .int (-1)]) (rest := []) ⟨hx, hb, hml, hown, hts⟩ (c_Ar_fill_I hr26 _) ⟨callB_of 2 hts (gd gw_7) rfl rfl rfl (hts _ gw_8) (hts _ gw_9) hd_Ar_fill_I ⟨by decide, by decide⟩, (hts _ gw_10)⟩ (preSW hK hN hPc hDc) rfl rfl hl.1 rfl (lv_room (Nat.le_of_ble_eq_true rfl)) d_Nu_clear_26 ⟨by decide, by decide⟩) hS (fun q _ h => hFc q h) hFc (fun w1 t H1 locs ht hvm hw hB hz1 hk1 hS => ?_)
  obtain rfl := hw
  obtain ⟨hP1, hD1⟩ := hB
  rw [ht] at hP1
  obtain ⟨hP, hD⟩ := va_join (wr := [(h, .inr (0, [.int nu_number, .ref h_shiftCosts, .ref h_pairCosts, .ref h_fixedShifts, .int nu_forbidden, .int nu_longest, .int nu_start, .int x1])), (h_shiftCosts, .inl (cI, 24, .inl r10)), (h_pairCosts, .inl (cI, 16, .inl r18))]) (w1 := [(h_fixedShifts, .inl (cI, 6, .inl r26))]) hP hD [3] [0, 1, 2] rfl rfl (by decide) (by decide) hk1 hFc hP1 hD1
  have hP := hP.sub (ws' := [(h, .inr (0, [.int nu_number, .ref h_shiftCosts, .ref h_pairCosts, .ref h_fixedShifts, .int nu_forbidden, .int nu_longest, .int nu_start, .int x1])), (h_shiftCosts, .inl (cI, 24, .inl r10)), (h_pairCosts, .inl (cI, 16, .inl r18)), (h_fixedShifts, .inl (cI, 6, .inl r26))]) [0, 1, 2, 3] rfl
  have hD := hD.sub (ws' := [(h, .inr (0, [.int nu_number, .ref h_shiftCosts, .ref h_pairCosts, .ref h_fixedShifts, .int nu_forbidden, .int nu_longest, .int nu_start, .int x1])), (h_shiftCosts, .inl (cI, 24, .inl r10)), (h_pairCosts, .inl (cI, 16, .inl r18)), (h_fixedShifts, .inl (cI, 6, .inl r26))]) [0, 1, 2, 3] (by decide) rfl
  refine lv_aload_n hx hb d_Nu_clear_29 rfl (lv_at hl 0 rfl) ?_
  refine lv_iconst (v := 0) hx hb d_Nu_clear_30 (by decide) ?_
  refine va_put (D := D) (ci := 0) (v := .int 0) (ty := .int) (C := "WardRoster$Nurse") (T := F_Nu) (N := 8) hx hb hts in_Nu t_Nu t_Nu_ok n_Nu hown hK hP hD hS 0 rfl rfl 4 (by decide) (hts _ gw_13) (fun _ h9 => h9) rfl (by decide +kernel) rfl rfl (Nat.le_of_ble_eq_true rfl) d_Nu_clear_31 (fun H locs hP hD hS => ?_)
  have hP : va_P D classes [(h, .inr (0, [.int nu_number, .ref h_shiftCosts, .ref h_pairCosts, .ref h_fixedShifts, .int 0, .int nu_longest, .int nu_start, .int x1])), (h_shiftCosts, .inl (cI, 24, .inl r10)), (h_pairCosts, .inl (cI, 16, .inl r18)), (h_fixedShifts, .inl (cI, 6, .inl r26))] _ := hP
  have hD : va_D A [(h, .inr (0, [.int nu_number, .ref h_shiftCosts, .ref h_pairCosts, .ref h_fixedShifts, .int 0, .int nu_longest, .int nu_start, .int x1])), (h_shiftCosts, .inl (cI, 24, .inl r10)), (h_pairCosts, .inl (cI, 16, .inl r18)), (h_fixedShifts, .inl (cI, 6, .inl r26))] := hD
  refine lv_aload_n hx hb d_Nu_clear_34 rfl (lv_at hl 0 rfl) ?_
  refine lv_iconst (v := 4) hx hb d_Nu_clear_35 (by decide) ?_
  refine va_put (D := D) (ci := 0) (v := .int 4) (ty := .int) (C := "WardRoster$Nurse") (T := F_Nu) (N := 8) hx hb hts in_Nu t_Nu t_Nu_ok n_Nu hown hK hP hD hS 0 rfl rfl 5 (by decide) (hts _ gw_14) (fun _ h9 => h9) rfl (by decide +kernel) rfl rfl (Nat.le_of_ble_eq_true rfl) d_Nu_clear_36 (fun H locs hP hD hS => ?_)
  have hP : va_P D classes [(h, .inr (0, [.int nu_number, .ref h_shiftCosts, .ref h_pairCosts, .ref h_fixedShifts, .int 0, .int 4, .int nu_start, .int x1])), (h_shiftCosts, .inl (cI, 24, .inl r10)), (h_pairCosts, .inl (cI, 16, .inl r18)), (h_fixedShifts, .inl (cI, 6, .inl r26))] _ := hP
  have hD : va_D A [(h, .inr (0, [.int nu_number, .ref h_shiftCosts, .ref h_pairCosts, .ref h_fixedShifts, .int 0, .int 4, .int nu_start, .int x1])), (h_shiftCosts, .inl (cI, 24, .inl r10)), (h_pairCosts, .inl (cI, 16, .inl r18)), (h_fixedShifts, .inl (cI, 6, .inl r26))] := hD
  refine lv_aload_n hx hb d_Nu_clear_39 rfl (lv_at hl 0 rfl) ?_
  refine lv_iconst (v := 0) hx hb d_Nu_clear_40 (by decide) ?_
  refine va_put (D := D) (ci := 0) (v := .int 0) (ty := .int) (C := "WardRoster$Nurse") (T := F_Nu) (N := 8) hx hb hts in_Nu t_Nu t_Nu_ok n_Nu hown hK hP hD hS 0 rfl rfl 6 (by decide) (hts _ gw_15) (fun _ h9 => h9) rfl (by decide +kernel) rfl rfl (Nat.le_of_ble_eq_true rfl) d_Nu_clear_41 (fun H locs hP hD hS => ?_)
  have hP : va_P D classes [(h, .inr (0, [.int nu_number, .ref h_shiftCosts, .ref h_pairCosts, .ref h_fixedShifts, .int 0, .int 4, .int 0, .int x1])), (h_shiftCosts, .inl (cI, 24, .inl r10)), (h_pairCosts, .inl (cI, 16, .inl r18)), (h_fixedShifts, .inl (cI, 6, .inl r26))] _ := hP
  have hD : va_D A [(h, .inr (0, [.int nu_number, .ref h_shiftCosts, .ref h_pairCosts, .ref h_fixedShifts, .int 0, .int 4, .int 0, .int x1])), (h_shiftCosts, .inl (cI, 24, .inl r10)), (h_pairCosts, .inl (cI, 16, .inl r18)), (h_fixedShifts, .inl (cI, 6, .inl r26))] := hD
  cases hf
  exact K d_Nu_clear_44 hP hD hS
set_option maxHeartbeats 4000000 in
set_option maxRecDepth 100000 in
theorem c_Nu_clear {l : Launch} {D : va_G} {cI cJ cZ cN : ClassId} {h h_shiftCosts h_pairCosts h_fixedShifts : Nat} {fu : Nat} {x1 nu_number nu_forbidden nu_longest nu_start nu_dayCount : Int32} {nu_shiftCosts nu_pairCosts nu_fixedShifts : (Nat → Int32)} {r : Int32 × Int32 × Int32 × Int32 × (Nat → Int32) × (Nat → Int32) × (Nat → Int32)} (hf : f_Nu_clear fu x1 nu_shiftCosts nu_pairCosts nu_fixedShifts = some r) : CW_v l y_Nu_clear w_Nu_clear rm_Nu_clear [.ref h, .int x1] D cI cJ cZ cN [(h, .inr (0, [.int nu_number, .ref h_shiftCosts, .ref h_pairCosts, .ref h_fixedShifts, .int nu_forbidden, .int nu_longest, .int nu_start, .int nu_dayCount])), (h_shiftCosts, .inl (cI, 24, .inl nu_shiftCosts)), (h_pairCosts, .inl (cI, 16, .inl nu_pairCosts)), (h_fixedShifts, .inl (cI, 6, .inl nu_fixedShifts))] (fun w1 => w1 = [(h, .inr (0, [.int nu_number, .ref h_shiftCosts, .ref h_pairCosts, .ref h_fixedShifts, .int r.1, .int r.2.1, .int r.2.2.1, .int r.2.2.2.1])), (h_shiftCosts, .inl (cI, 24, .inl r.2.2.2.2.1)), (h_pairCosts, .inl (cI, 16, .inl r.2.2.2.2.2.1)), (h_fixedShifts, .inl (cI, 6, .inl r.2.2.2.2.2.2))]) := by
  intro sz
  refine Met.ofW (cc := b_Nu_clear) (maxL := 2) (ret := none) (by decide) rfl ?_
  intro p e s m args below meth c s₁ B hml hv
  obtain ⟨rfl, hsz, hP, ⟨hK, hN⟩, hD0⟩ := hv
  have hx := B.exec
  have hb := B.bytes
  have hr := B.returns
  have hts := fun w h => atoms_spec (ws := w_Nu_clear) B.pre w (List.mem_cons_of_mem _ h)
  have hown : s.vm.findClass "WardRoster$Nurse" = some m.cls := findClass_of_methodNamed B.named
  have hlocks := B.notSynchronized
  subst hsz
  have hD := hD0.self (sz := s.heap.size)
  generalize hAe : va_A [(h, .inr (0, [.int nu_number, .ref h_shiftCosts, .ref h_pairCosts, .ref h_fixedShifts, .int nu_forbidden, .int nu_longest, .int nu_start, .int nu_dayCount])), (h_shiftCosts, .inl (cI, 24, .inl nu_shiftCosts)), (h_pairCosts, .inl (cI, 16, .inl nu_pairCosts)), (h_fixedShifts, .inl (cI, 6, .inl nu_fixedShifts))] s.heap.size = A at hD ⊢
  have hA : ∀ q : Nat, s.heap.size ≤ q → A q := fun q h => by rw [← hAe]; exact Or.inr h
  have hS : va_S A s.heap s.heap [] := va_S.rf
  have hl := lv_entry [.ref h, .int x1] (n := 2) (Nat.le_of_ble_eq_true rfl)
  rw [lg_entry_eq]
  generalize (lg_sl [.ref h, .int x1] ++ List.replicate (2 - (lg_sl [.ref h, .int x1]).length) Slot.unset).toArray = ls at hl ⊢
  have hl : lv_has ls 2 [(0, .ref h), (1, .int x1)] := hl
  exact T_Nu_clear_e ⟨hx, hb, hml, hown, hts, hK, hN⟩ hA hP hD hS hl hf (fun hd hP hD hS => W.vret hx hb hr (fun t ht hW => ⟨⟨_, rfl, rfl, by rw [ht]; exact hP, hD⟩, hS.F ht⟩) hS.2.2 hd)
theorem d_Nu_stateAfter_0 : decode b_Nu_stateAfter 0 = .ok (.aload_n 0, 1) := by decide +kernel
theorem d_Nu_stateAfter_1 : decode b_Nu_stateAfter 1 = .ok (.getfield 18, 3) := by decide +kernel
theorem d_Nu_stateAfter_4 : decode b_Nu_stateAfter 4 = .ok (.iload_n 1, 1) := by decide +kernel
theorem d_Nu_stateAfter_5 : decode b_Nu_stateAfter 5 = .ok (.iaload, 1) := by decide +kernel
theorem d_Nu_stateAfter_6 : decode b_Nu_stateAfter 6 = .ok (.iconst (-1), 1) := by decide +kernel
theorem d_Nu_stateAfter_7 : decode b_Nu_stateAfter 7 = .ok (.if_icmp .eq 15, 3) := by decide +kernel
theorem d_Nu_stateAfter_10 : decode b_Nu_stateAfter 10 = .ok (.aload_n 0, 1) := by decide +kernel
theorem d_Nu_stateAfter_11 : decode b_Nu_stateAfter 11 = .ok (.getfield 18, 3) := by decide +kernel
theorem d_Nu_stateAfter_14 : decode b_Nu_stateAfter 14 = .ok (.iload_n 1, 1) := by decide +kernel
theorem d_Nu_stateAfter_15 : decode b_Nu_stateAfter 15 = .ok (.iaload, 1) := by decide +kernel
theorem d_Nu_stateAfter_16 : decode b_Nu_stateAfter 16 = .ok (.iload_n 3, 1) := by decide +kernel
theorem d_Nu_stateAfter_17 : decode b_Nu_stateAfter 17 = .ok (.if_icmp .eq 5, 3) := by decide +kernel
theorem d_Nu_stateAfter_20 : decode b_Nu_stateAfter 20 = .ok (.iconst (-1), 1) := by decide +kernel
theorem d_Nu_stateAfter_21 : decode b_Nu_stateAfter 21 = .ok (.ireturn, 1) := by decide +kernel
theorem d_Nu_stateAfter_22 : decode b_Nu_stateAfter 22 = .ok (.aload_n 0, 1) := by decide +kernel
theorem d_Nu_stateAfter_23 : decode b_Nu_stateAfter 23 = .ok (.getfield 34, 3) := by decide +kernel
theorem d_Nu_stateAfter_26 : decode b_Nu_stateAfter 26 = .ok (.iload_n 2, 1) := by decide +kernel
theorem d_Nu_stateAfter_27 : decode b_Nu_stateAfter 27 = .ok (.invokestatic 43, 3) := by decide +kernel
theorem d_Nu_stateAfter_30 : decode b_Nu_stateAfter 30 = .ok (.iload_n 3, 1) := by decide +kernel
theorem d_Nu_stateAfter_31 : decode b_Nu_stateAfter 31 = .ok (.invokestatic 47, 3) := by decide +kernel
theorem d_Nu_stateAfter_34 : decode b_Nu_stateAfter 34 = .ok (.ishr, 1) := by decide +kernel
theorem d_Nu_stateAfter_35 : decode b_Nu_stateAfter 35 = .ok (.iconst 1, 1) := by decide +kernel
theorem d_Nu_stateAfter_36 : decode b_Nu_stateAfter 36 = .ok (.iand, 1) := by decide +kernel
theorem d_Nu_stateAfter_37 : decode b_Nu_stateAfter 37 = .ok (.ifCond .eq 5, 3) := by decide +kernel
theorem d_Nu_stateAfter_40 : decode b_Nu_stateAfter 40 = .ok (.iconst (-1), 1) := by decide +kernel
theorem d_Nu_stateAfter_41 : decode b_Nu_stateAfter 41 = .ok (.ireturn, 1) := by decide +kernel
theorem d_Nu_stateAfter_42 : decode b_Nu_stateAfter 42 = .ok (.iload_n 3, 1) := by decide +kernel
theorem d_Nu_stateAfter_43 : decode b_Nu_stateAfter 43 = .ok (.ifCond .ne 5, 3) := by decide +kernel
theorem d_Nu_stateAfter_46 : decode b_Nu_stateAfter 46 = .ok (.iconst 0, 1) := by decide +kernel
theorem d_Nu_stateAfter_47 : decode b_Nu_stateAfter 47 = .ok (.ireturn, 1) := by decide +kernel
theorem d_Nu_stateAfter_48 : decode b_Nu_stateAfter 48 = .ok (.iload_n 2, 1) := by decide +kernel
theorem d_Nu_stateAfter_49 : decode b_Nu_stateAfter 49 = .ok (.invokestatic 51, 3) := by decide +kernel
theorem d_Nu_stateAfter_52 : decode b_Nu_stateAfter 52 = .ok (.iconst 1, 1) := by decide +kernel
theorem d_Nu_stateAfter_53 : decode b_Nu_stateAfter 53 = .ok (.iadd, 1) := by decide +kernel
theorem d_Nu_stateAfter_54 : decode b_Nu_stateAfter 54 = .ok (.istore 4, 2) := by decide +kernel
theorem d_Nu_stateAfter_56 : decode b_Nu_stateAfter 56 = .ok (.iload 4, 2) := by decide +kernel
theorem d_Nu_stateAfter_58 : decode b_Nu_stateAfter 58 = .ok (.aload_n 0, 1) := by decide +kernel
theorem d_Nu_stateAfter_59 : decode b_Nu_stateAfter 59 = .ok (.getfield 37, 3) := by decide +kernel
theorem d_Nu_stateAfter_62 : decode b_Nu_stateAfter 62 = .ok (.if_icmp .le 5, 3) := by decide +kernel
theorem d_Nu_stateAfter_65 : decode b_Nu_stateAfter 65 = .ok (.iconst (-1), 1) := by decide +kernel
theorem d_Nu_stateAfter_66 : decode b_Nu_stateAfter 66 = .ok (.ireturn, 1) := by decide +kernel
theorem d_Nu_stateAfter_67 : decode b_Nu_stateAfter 67 = .ok (.aload_n 0, 1) := by decide +kernel
theorem d_Nu_stateAfter_68 : decode b_Nu_stateAfter 68 = .ok (.getfield 25, 3) := by decide +kernel
theorem d_Nu_stateAfter_71 : decode b_Nu_stateAfter 71 = .ok (.iconst 1, 1) := by decide +kernel
theorem d_Nu_stateAfter_72 : decode b_Nu_stateAfter 72 = .ok (.isub, 1) := by decide +kernel
theorem d_Nu_stateAfter_73 : decode b_Nu_stateAfter 73 = .ok (.iload_n 1, 1) := by decide +kernel
theorem d_Nu_stateAfter_74 : decode b_Nu_stateAfter 74 = .ok (.isub, 1) := by decide +kernel
theorem d_Nu_stateAfter_75 : decode b_Nu_stateAfter 75 = .ok (.istore 5, 2) := by decide +kernel
theorem d_Nu_stateAfter_77 : decode b_Nu_stateAfter 77 = .ok (.iload_n 3, 1) := by decide +kernel
theorem d_Nu_stateAfter_78 : decode b_Nu_stateAfter 78 = .ok (.iload 4, 2) := by decide +kernel
theorem d_Nu_stateAfter_80 : decode b_Nu_stateAfter 80 = .ok (.iload 5, 2) := by decide +kernel
theorem d_Nu_stateAfter_82 : decode b_Nu_stateAfter 82 = .ok (.iadd, 1) := by decide +kernel
theorem d_Nu_stateAfter_83 : decode b_Nu_stateAfter 83 = .ok (.aload_n 0, 1) := by decide +kernel
theorem d_Nu_stateAfter_84 : decode b_Nu_stateAfter 84 = .ok (.getfield 37, 3) := by decide +kernel
theorem d_Nu_stateAfter_87 : decode b_Nu_stateAfter 87 = .ok (.if_icmp .gt 7, 3) := by decide +kernel
theorem d_Nu_stateAfter_90 : decode b_Nu_stateAfter 90 = .ok (.iconst 1, 1) := by decide +kernel
theorem d_Nu_stateAfter_91 : decode b_Nu_stateAfter 91 = .ok (.goto 5, 3) := by decide +kernel
theorem d_Nu_stateAfter_94 : decode b_Nu_stateAfter 94 = .ok (.iload 4, 2) := by decide +kernel
theorem d_Nu_stateAfter_96 : decode b_Nu_stateAfter 96 = .ok (.invokestatic 54, 3) := by decide +kernel
theorem d_Nu_stateAfter_99 : decode b_Nu_stateAfter 99 = .ok (.ireturn, 1) := by decide +kernel
def f_Nu_stateAfter_b22 (x1 : Int32) (x2 : Int32) (x3 : Int32) (nu_forbidden : Int32) (nu_longest : Int32) (nu_dayCount : Int32) : Option (Int32) :=
  (f_Wr_shiftOf x2).bind fun v27 => (f_Wr_cell v27 x3).bind fun v31 => if ((nu_forbidden >>> (v31 &&& 31)) &&& 1) = 0 then if x3 = 0 then some (0 : Int32) else (f_Wr_workedOf x2).bind fun v49 => if (v49 + 1) ≤ nu_longest then if nu_longest < ((v49 + 1) + ((nu_dayCount - 1) - x1)) then (f_Wr_stateOf x3 (v49 + 1)).bind fun v96 => some v96 else (f_Wr_stateOf x3 (1 : Int32)).bind fun v96 => some v96 else some ((-1) : Int32) else some ((-1) : Int32)
def f_Nu_stateAfter (x1 : Int32) (x2 : Int32) (x3 : Int32) (nu_forbidden : Int32) (nu_longest : Int32) (nu_dayCount : Int32) (nu_fixedShifts : (Nat → Int32)) : Option (Int32) :=
  (gi 6 nu_fixedShifts x1).bind fun v5 => if v5 = (-1) then f_Nu_stateAfter_b22 x1 x2 x3 nu_forbidden nu_longest nu_dayCount else (gi 6 nu_fixedShifts x1).bind fun v15 => if v15 = x3 then f_Nu_stateAfter_b22 x1 x2 x3 nu_forbidden nu_longest nu_dayCount else some ((-1) : Int32)
set_option maxHeartbeats 4000000 in
set_option maxRecDepth 100000 in
theorem T_Nu_stateAfter_b22 {p : Program} {l : Launch} {e : Env} {s : State} {m : MethodId} {args : Array Value} {below : List Frame} {meth : Method} {c : Code} {Q : State → Prop} {D : va_G} {cI cJ cZ cN : ClassId} (C : Cx p s m args c b_Nu_stateAfter 6 "WardRoster$Nurse" D cI cJ cZ cN) {h h_shiftCosts h_pairCosts h_fixedShifts : Nat} {x1 x2 x3 nu_number nu_forbidden nu_longest nu_start nu_dayCount : Int32} {nu_shiftCosts nu_pairCosts nu_fixedShifts : (Nat → Int32)} {ls : Array Slot} (hP : va_P D classes [(h, .inr (0, [.int nu_number, .ref h_shiftCosts, .ref h_pairCosts, .ref h_fixedShifts, .int nu_forbidden, .int nu_longest, .int nu_start, .int nu_dayCount])), (h_shiftCosts, .inl (cI, 24, .inl nu_shiftCosts)), (h_pairCosts, .inl (cI, 16, .inl nu_pairCosts)), (h_fixedShifts, .inl (cI, 6, .inl nu_fixedShifts))] s.heap) (hl : lv_has ls 6 [(0, .ref h), (1, .int x1), (2, .int x2), (3, .int x3)]) {r : Int32} (hf : f_Nu_stateAfter_b22 x1 x2 x3 nu_forbidden nu_longest nu_dayCount = some r) (K : ∀ {pc : Nat} {ls : Array Slot}, decode b_Nu_stateAfter pc = .ok (.ireturn, 1) → W p l e rm_Nu_stateAfter s m args below meth c s.heap [] 0 0 Q (F0 m pc ls [.int r])) : W p l e rm_Nu_stateAfter s m args below meth c s.heap [] 0 0 Q (F0 m 22 ls []) := by
  obtain ⟨hx, hb, hml, hown, hts, hK, hN⟩ := id C
  have hf : ((f_Wr_shiftOf x2).bind fun v27 => (f_Wr_cell v27 x3).bind fun v31 => if ((nu_forbidden >>> (v31 &&& 31)) &&& 1) = 0 then if x3 = 0 then some (0 : Int32) else (f_Wr_workedOf x2).bind fun v49 => if (v49 + 1) ≤ nu_longest then if nu_longest < ((v49 + 1) + ((nu_dayCount - 1) - x1)) then (f_Wr_stateOf x3 (v49 + 1)).bind fun v96 => some v96 else (f_Wr_stateOf x3 (1 : Int32)).bind fun v96 => some v96 else some ((-1) : Int32) else some ((-1) : Int32) : Option (Int32)) = some r := hf
  refine lv_aload_n hx hb d_Nu_stateAfter_22 rfl (lv_at hl 0 rfl) ?_
  refine va_get (D := D) (ci := 0) (v := .int nu_forbidden) (C := "WardRoster$Nurse") (T := F_Nu) (N := 8) hx hb hts in_Nu hown hK hP 0 rfl rfl 4 (by decide) (hts _ gw_13) (fun _ h9 => h9) rfl d_Nu_stateAfter_23 ?_
  refine lv_iload_n hx hb d_Nu_stateAfter_26 rfl (lv_at hl 2 rfl) ?_
  obtain ⟨v27, hv27, hf⟩ := ob hf
  have hPc := hP.sub (ws' := []) [] rfl
  refine rc_i (va_runSN (As := [.int x2]) (rest := [.int nu_forbidden]) ⟨hx, hb, hml, hown, hts⟩ (c_Wr_shiftOf hv27) ⟨va_cnB 1 hts (gd gw_16) rfl rfl rfl (hN _ nw_0) (hts _ gw_17) hd_Wr_shiftOf ⟨by decide, by decide⟩, (hts _ gw_18), trivial⟩ (preSR hK hN hPc) rfl rfl hl.1 rfl (lv_room (Nat.le_of_ble_eq_true rfl)) d_Nu_stateAfter_27 ⟨by decide, by decide⟩) ?_
  refine lv_iload_n hx hb d_Nu_stateAfter_30 rfl (lv_at hl 3 rfl) ?_
  obtain ⟨v31, hv31, hf⟩ := ob hf
  have hPc := hP.sub (ws' := []) [] rfl
  refine rc_i (va_runSN (As := [.int v27, .int x3]) (rest := [.int nu_forbidden]) ⟨hx, hb, hml, hown, hts⟩ (c_Wr_cell hv31) ⟨va_cnB 2 hts (gd gw_19) rfl rfl rfl (hN _ nw_1) (hts _ gw_17) hd_Wr_cell ⟨by decide, by decide⟩, (hts _ gw_20), trivial⟩ (preSR hK hN hPc) rfl rfl hl.1 rfl (lv_room (Nat.le_of_ble_eq_true rfl)) d_Nu_stateAfter_31 ⟨by decide, by decide⟩) ?_
  refine lv_ishr hx hb d_Nu_stateAfter_34 ?_
  refine lv_iconst (v := 1) hx hb d_Nu_stateAfter_35 (by decide) ?_
  refine lv_iand hx hb d_Nu_stateAfter_36 ?_
  refine lv_if_eq (tgt := 42) hx hb d_Nu_stateAfter_37 (by decide) (fun hc0 => ?_) (fun hc0 => ?_)
  · have hf := if_t hc0 hf
    refine lv_iload_n hx hb d_Nu_stateAfter_42 rfl (lv_at hl 3 rfl) ?_
    refine lv_if_ne (tgt := 48) hx hb d_Nu_stateAfter_43 (by decide) (fun hc0 => ?_) (fun hc0 => ?_)
    · have hf := if_f hc0 hf
      refine lv_iload_n hx hb d_Nu_stateAfter_48 rfl (lv_at hl 2 rfl) ?_
      obtain ⟨v49, hv49, hf⟩ := ob hf
      have hPc := hP.sub (ws' := []) [] rfl
      refine rc_i (va_runSN (As := [.int x2]) (rest := []) ⟨hx, hb, hml, hown, hts⟩ (c_Wr_workedOf hv49) ⟨va_cnB 1 hts (gd gw_21) rfl rfl rfl (hN _ nw_2) (hts _ gw_17) hd_Wr_workedOf ⟨by decide, by decide⟩, (hts _ gw_22), trivial⟩ (preSR hK hN hPc) rfl rfl hl.1 rfl (lv_room (Nat.le_of_ble_eq_true rfl)) d_Nu_stateAfter_49 ⟨by decide, by decide⟩) ?_
      refine lv_iconst (v := 1) hx hb d_Nu_stateAfter_52 (by decide) ?_
      refine lv_iadd hx hb d_Nu_stateAfter_53 ?_
      refine lv_istore (lv' := [(4, .int (v49 + 1)), (0, .ref h), (1, .int x1), (2, .int x2), (3, .int x3)]) hx hb d_Nu_stateAfter_54 hl (by decide) rfl (fun ls hl => ?_)
      refine lv_iload hx hb d_Nu_stateAfter_56 (lv_at hl 0 rfl) ?_
      refine lv_aload_n hx hb d_Nu_stateAfter_58 rfl (lv_at hl 1 rfl) ?_
      refine va_get (D := D) (ci := 0) (v := .int nu_longest) (C := "WardRoster$Nurse") (T := F_Nu) (N := 8) hx hb hts in_Nu hown hK hP 0 rfl rfl 5 (by decide) (hts _ gw_14) (fun _ h9 => h9) rfl d_Nu_stateAfter_59 ?_
      refine lv_icmp_le (tgt := 67) hx hb d_Nu_stateAfter_62 (by decide) (fun hc0 => ?_) (fun hc0 => ?_)
      · have hf := if_t hc0 hf
        refine lv_aload_n hx hb d_Nu_stateAfter_67 rfl (lv_at hl 1 rfl) ?_
        refine va_get (D := D) (ci := 0) (v := .int nu_dayCount) (C := "WardRoster$Nurse") (T := F_Nu) (N := 8) hx hb hts in_Nu hown hK hP 0 rfl rfl 7 (by decide) (hts _ gw_5) (fun _ h9 => h9) rfl d_Nu_stateAfter_68 ?_
        refine lv_iconst (v := 1) hx hb d_Nu_stateAfter_71 (by decide) ?_
        refine lv_isub hx hb d_Nu_stateAfter_72 ?_
        refine lv_iload_n hx hb d_Nu_stateAfter_73 rfl (lv_at hl 2 rfl) ?_
        refine lv_isub hx hb d_Nu_stateAfter_74 ?_
        refine lv_istore (lv' := [(5, .int ((nu_dayCount - 1) - x1)), (4, .int (v49 + 1)), (0, .ref h), (1, .int x1), (2, .int x2), (3, .int x3)]) hx hb d_Nu_stateAfter_75 hl (by decide) rfl (fun ls hl => ?_)
        refine lv_iload_n hx hb d_Nu_stateAfter_77 rfl (lv_at hl 5 rfl) ?_
        refine lv_iload hx hb d_Nu_stateAfter_78 (lv_at hl 1 rfl) ?_
        refine lv_iload hx hb d_Nu_stateAfter_80 (lv_at hl 0 rfl) ?_
        refine lv_iadd hx hb d_Nu_stateAfter_82 ?_
        refine lv_aload_n hx hb d_Nu_stateAfter_83 rfl (lv_at hl 2 rfl) ?_
        refine va_get (D := D) (ci := 0) (v := .int nu_longest) (C := "WardRoster$Nurse") (T := F_Nu) (N := 8) hx hb hts in_Nu hown hK hP 0 rfl rfl 5 (by decide) (hts _ gw_14) (fun _ h9 => h9) rfl d_Nu_stateAfter_84 ?_
        refine lv_icmp_gt (tgt := 94) hx hb d_Nu_stateAfter_87 (by decide) (fun hc0 => ?_) (fun hc0 => ?_)
        · have hf := if_t hc0 hf
          refine lv_iload hx hb d_Nu_stateAfter_94 (lv_at hl 1 rfl) ?_
          obtain ⟨v96, hv96, hf⟩ := ob hf
          have hPc := hP.sub (ws' := []) [] rfl
          refine rc_i (va_runSN (As := [.int x3, .int (v49 + 1)]) (rest := []) ⟨hx, hb, hml, hown, hts⟩ (c_Wr_stateOf hv96) ⟨va_cnB 2 hts (gd gw_23) rfl rfl rfl (hN _ nw_3) (hts _ gw_17) hd_Wr_stateOf ⟨by decide, by decide⟩, (hts _ gw_24), trivial⟩ (preSR hK hN hPc) rfl rfl hl.1 rfl (lv_room (Nat.le_of_ble_eq_true rfl)) d_Nu_stateAfter_96 ⟨by decide, by decide⟩) ?_
          cases hf
          exact K d_Nu_stateAfter_99
        · have hf := if_f hc0 hf
          refine lv_iconst (v := 1) hx hb d_Nu_stateAfter_90 (by decide) ?_
          refine lv_goto (tgt := 96) hx hb d_Nu_stateAfter_91 (by decide) ?_
          obtain ⟨v96, hv96, hf⟩ := ob hf
          have hPc := hP.sub (ws' := []) [] rfl
          refine rc_i (va_runSN (As := [.int x3, .int 1]) (rest := []) ⟨hx, hb, hml, hown, hts⟩ (c_Wr_stateOf hv96) ⟨va_cnB 2 hts (gd gw_23) rfl rfl rfl (hN _ nw_3) (hts _ gw_17) hd_Wr_stateOf ⟨by decide, by decide⟩, (hts _ gw_24), trivial⟩ (preSR hK hN hPc) rfl rfl hl.1 rfl (lv_room (Nat.le_of_ble_eq_true rfl)) d_Nu_stateAfter_96 ⟨by decide, by decide⟩) ?_
          cases hf
          exact K d_Nu_stateAfter_99
      · have hf := if_f hc0 hf
        refine lv_iconst (v := (-1)) hx hb d_Nu_stateAfter_65 (by decide) ?_
        cases hf
        exact K d_Nu_stateAfter_66
    · have hf := if_t hc0 hf
      refine lv_iconst (v := 0) hx hb d_Nu_stateAfter_46 (by decide) ?_
      cases hf
      exact K d_Nu_stateAfter_47
  · have hf := if_f hc0 hf
    refine lv_iconst (v := (-1)) hx hb d_Nu_stateAfter_40 (by decide) ?_
    cases hf
    exact K d_Nu_stateAfter_41
set_option maxHeartbeats 4000000 in
set_option maxRecDepth 100000 in
theorem T_Nu_stateAfter_e {p : Program} {l : Launch} {e : Env} {s : State} {m : MethodId} {args : Array Value} {below : List Frame} {meth : Method} {c : Code} {Q : State → Prop} {D : va_G} {cI cJ cZ cN : ClassId} (C : Cx p s m args c b_Nu_stateAfter 6 "WardRoster$Nurse" D cI cJ cZ cN) {h h_shiftCosts h_pairCosts h_fixedShifts : Nat} {x1 x2 x3 nu_number nu_forbidden nu_longest nu_start nu_dayCount : Int32} {nu_shiftCosts nu_pairCosts nu_fixedShifts : (Nat → Int32)} {ls : Array Slot} (hP : va_P D classes [(h, .inr (0, [.int nu_number, .ref h_shiftCosts, .ref h_pairCosts, .ref h_fixedShifts, .int nu_forbidden, .int nu_longest, .int nu_start, .int nu_dayCount])), (h_shiftCosts, .inl (cI, 24, .inl nu_shiftCosts)), (h_pairCosts, .inl (cI, 16, .inl nu_pairCosts)), (h_fixedShifts, .inl (cI, 6, .inl nu_fixedShifts))] s.heap) (hl : lv_has ls 6 [(0, .ref h), (1, .int x1), (2, .int x2), (3, .int x3)]) {r : Int32} (hf : f_Nu_stateAfter x1 x2 x3 nu_forbidden nu_longest nu_dayCount nu_fixedShifts = some r) (K : ∀ {pc : Nat} {ls : Array Slot}, decode b_Nu_stateAfter pc = .ok (.ireturn, 1) → W p l e rm_Nu_stateAfter s m args below meth c s.heap [] 0 0 Q (F0 m pc ls [.int r])) : W p l e rm_Nu_stateAfter s m args below meth c s.heap [] 0 0 Q (F0 m 0 ls []) := by
  obtain ⟨hx, hb, hml, hown, hts, hK, hN⟩ := id C
  have hf : ((gi 6 nu_fixedShifts x1).bind fun v5 => if v5 = (-1) then f_Nu_stateAfter_b22 x1 x2 x3 nu_forbidden nu_longest nu_dayCount else (gi 6 nu_fixedShifts x1).bind fun v15 => if v15 = x3 then f_Nu_stateAfter_b22 x1 x2 x3 nu_forbidden nu_longest nu_dayCount else some ((-1) : Int32) : Option (Int32)) = some r := hf
  refine lv_aload_n hx hb d_Nu_stateAfter_0 rfl (lv_at hl 0 rfl) ?_
  refine va_get (D := D) (ci := 0) (v := .ref h_fixedShifts) (C := "WardRoster$Nurse") (T := F_Nu) (N := 8) hx hb hts in_Nu hown hK hP 0 rfl rfl 3 (by decide) (hts _ gw_12) (fun _ h9 => h9) rfl d_Nu_stateAfter_1 ?_
  refine lv_iload_n hx hb d_Nu_stateAfter_4 rfl (lv_at hl 1 rfl) ?_
  obtain ⟨v5, hv5, hf⟩ := ob hf
  refine ga_i hx hb hK hP 3 0 rfl rfl hv5 d_Nu_stateAfter_5 ?_
  refine lv_iconst (v := (-1)) hx hb d_Nu_stateAfter_6 (by decide) ?_
  refine lv_icmp_eq (tgt := 22) hx hb d_Nu_stateAfter_7 (by decide) (fun hc0 => ?_) (fun hc0 => ?_)
  · have hf := if_t hc0 hf
    exact T_Nu_stateAfter_b22 C hP (lv_sub hl [0, 1, 2, 3] rfl) hf K
  · have hf := if_f hc0 hf
    refine lv_aload_n hx hb d_Nu_stateAfter_10 rfl (lv_at hl 0 rfl) ?_
    refine va_get (D := D) (ci := 0) (v := .ref h_fixedShifts) (C := "WardRoster$Nurse") (T := F_Nu) (N := 8) hx hb hts in_Nu hown hK hP 0 rfl rfl 3 (by decide) (hts _ gw_12) (fun _ h9 => h9) rfl d_Nu_stateAfter_11 ?_
    refine lv_iload_n hx hb d_Nu_stateAfter_14 rfl (lv_at hl 1 rfl) ?_
    obtain ⟨v15, hv15, hf⟩ := ob hf
    refine ga_i hx hb hK hP 3 0 rfl rfl hv15 d_Nu_stateAfter_15 ?_
    refine lv_iload_n hx hb d_Nu_stateAfter_16 rfl (lv_at hl 3 rfl) ?_
    refine lv_icmp_eq (tgt := 22) hx hb d_Nu_stateAfter_17 (by decide) (fun hc0 => ?_) (fun hc0 => ?_)
    · have hf := if_t hc0 hf
      exact T_Nu_stateAfter_b22 C hP (lv_sub hl [0, 1, 2, 3] rfl) hf K
    · have hf := if_f hc0 hf
      refine lv_iconst (v := (-1)) hx hb d_Nu_stateAfter_20 (by decide) ?_
      cases hf
      exact K d_Nu_stateAfter_21
set_option maxHeartbeats 4000000 in
set_option maxRecDepth 100000 in
theorem c_Nu_stateAfter {l : Launch} {D : va_G} {cI cJ cZ cN : ClassId} {h h_shiftCosts h_pairCosts h_fixedShifts : Nat} {x1 x2 x3 nu_number nu_forbidden nu_longest nu_start nu_dayCount : Int32} {nu_shiftCosts nu_pairCosts nu_fixedShifts : (Nat → Int32)} {r : Int32} (hf : f_Nu_stateAfter x1 x2 x3 nu_forbidden nu_longest nu_dayCount nu_fixedShifts = some r) : CR_i l y_Nu_stateAfter w_Nu_stateAfter rm_Nu_stateAfter [.ref h, .int x1, .int x2, .int x3] D cI cJ cZ cN [(h, .inr (0, [.int nu_number, .ref h_shiftCosts, .ref h_pairCosts, .ref h_fixedShifts, .int nu_forbidden, .int nu_longest, .int nu_start, .int nu_dayCount])), (h_shiftCosts, .inl (cI, 24, .inl nu_shiftCosts)), (h_pairCosts, .inl (cI, 16, .inl nu_pairCosts)), (h_fixedShifts, .inl (cI, 6, .inl nu_fixedShifts))] r := by
  refine Met.ofW (cc := b_Nu_stateAfter) (maxL := 6) (ret := (some .int)) (by decide) rfl ?_
  intro p e s m args below meth c s₁ B hml hv
  obtain ⟨rfl, hP, hK, hN⟩ := hv
  have hx := B.exec
  have hb := B.bytes
  have hr := B.returns
  have hts := fun w h => atoms_spec (ws := w_Nu_stateAfter) B.pre w (List.mem_cons_of_mem _ h)
  have hown : s.vm.findClass "WardRoster$Nurse" = some m.cls := findClass_of_methodNamed B.named
  have hlocks := B.notSynchronized
  have hl := lv_entry [.ref h, .int x1, .int x2, .int x3] (n := 6) (Nat.le_of_ble_eq_true rfl)
  rw [lg_entry_eq]
  generalize (lg_sl [.ref h, .int x1, .int x2, .int x3] ++ List.replicate (6 - (lg_sl [.ref h, .int x1, .int x2, .int x3]).length) Slot.unset).toArray = ls at hl ⊢
  have hl : lv_has ls 6 [(0, .ref h), (1, .int x1), (2, .int x2), (3, .int x3)] := hl
  exact T_Nu_stateAfter_e ⟨hx, hb, hml, hown, hts, hK, hN⟩ hP hl hf (fun hd => W.iret hx hb hr (fun t ht hW => ⟨_, rfl, rfl, ht⟩) (fun _ h => by cases h) hd)
theorem d_Nu_penaltyOf_0 : decode b_Nu_penaltyOf 0 = .ok (.aload_n 0, 1) := by decide +kernel
theorem d_Nu_penaltyOf_1 : decode b_Nu_penaltyOf 1 = .ok (.getfield 9, 3) := by decide +kernel
theorem d_Nu_penaltyOf_4 : decode b_Nu_penaltyOf 4 = .ok (.iload_n 1, 1) := by decide +kernel
theorem d_Nu_penaltyOf_5 : decode b_Nu_penaltyOf 5 = .ok (.iload_n 3, 1) := by decide +kernel
theorem d_Nu_penaltyOf_6 : decode b_Nu_penaltyOf 6 = .ok (.invokestatic 47, 3) := by decide +kernel
theorem d_Nu_penaltyOf_9 : decode b_Nu_penaltyOf 9 = .ok (.iaload, 1) := by decide +kernel
theorem d_Nu_penaltyOf_10 : decode b_Nu_penaltyOf 10 = .ok (.aload_n 0, 1) := by decide +kernel
theorem d_Nu_penaltyOf_11 : decode b_Nu_penaltyOf 11 = .ok (.getfield 15, 3) := by decide +kernel
theorem d_Nu_penaltyOf_14 : decode b_Nu_penaltyOf 14 = .ok (.iload_n 2, 1) := by decide +kernel
theorem d_Nu_penaltyOf_15 : decode b_Nu_penaltyOf 15 = .ok (.invokestatic 43, 3) := by decide +kernel
theorem d_Nu_penaltyOf_18 : decode b_Nu_penaltyOf 18 = .ok (.iload_n 3, 1) := by decide +kernel
theorem d_Nu_penaltyOf_19 : decode b_Nu_penaltyOf 19 = .ok (.invokestatic 47, 3) := by decide +kernel
theorem d_Nu_penaltyOf_22 : decode b_Nu_penaltyOf 22 = .ok (.iaload, 1) := by decide +kernel
theorem d_Nu_penaltyOf_23 : decode b_Nu_penaltyOf 23 = .ok (.iadd, 1) := by decide +kernel
theorem d_Nu_penaltyOf_24 : decode b_Nu_penaltyOf 24 = .ok (.ireturn, 1) := by decide +kernel
def f_Nu_penaltyOf (x1 : Int32) (x2 : Int32) (x3 : Int32) (nu_shiftCosts : (Nat → Int32)) (nu_pairCosts : (Nat → Int32)) : Option (Int32) :=
  (f_Wr_cell x1 x3).bind fun v6 => (gi 24 nu_shiftCosts v6).bind fun v9 => (f_Wr_shiftOf x2).bind fun v15 => (f_Wr_cell v15 x3).bind fun v19 => (gi 16 nu_pairCosts v19).bind fun v22 => some (v9 + v22)
set_option maxHeartbeats 4000000 in
set_option maxRecDepth 100000 in
theorem T_Nu_penaltyOf_e {p : Program} {l : Launch} {e : Env} {s : State} {m : MethodId} {args : Array Value} {below : List Frame} {meth : Method} {c : Code} {Q : State → Prop} {D : va_G} {cI cJ cZ cN : ClassId} (C : Cx p s m args c b_Nu_penaltyOf 4 "WardRoster$Nurse" D cI cJ cZ cN) {h h_shiftCosts h_pairCosts h_fixedShifts : Nat} {x1 x2 x3 nu_number nu_forbidden nu_longest nu_start nu_dayCount : Int32} {nu_shiftCosts nu_pairCosts nu_fixedShifts : (Nat → Int32)} {ls : Array Slot} (hP : va_P D classes [(h, .inr (0, [.int nu_number, .ref h_shiftCosts, .ref h_pairCosts, .ref h_fixedShifts, .int nu_forbidden, .int nu_longest, .int nu_start, .int nu_dayCount])), (h_shiftCosts, .inl (cI, 24, .inl nu_shiftCosts)), (h_pairCosts, .inl (cI, 16, .inl nu_pairCosts)), (h_fixedShifts, .inl (cI, 6, .inl nu_fixedShifts))] s.heap) (hl : lv_has ls 4 [(0, .ref h), (1, .int x1), (2, .int x2), (3, .int x3)]) {r : Int32} (hf : f_Nu_penaltyOf x1 x2 x3 nu_shiftCosts nu_pairCosts = some r) (K : ∀ {pc : Nat} {ls : Array Slot}, decode b_Nu_penaltyOf pc = .ok (.ireturn, 1) → W p l e rm_Nu_penaltyOf s m args below meth c s.heap [] 0 0 Q (F0 m pc ls [.int r])) : W p l e rm_Nu_penaltyOf s m args below meth c s.heap [] 0 0 Q (F0 m 0 ls []) := by
  obtain ⟨hx, hb, hml, hown, hts, hK, hN⟩ := id C
  have hf : ((f_Wr_cell x1 x3).bind fun v6 => (gi 24 nu_shiftCosts v6).bind fun v9 => (f_Wr_shiftOf x2).bind fun v15 => (f_Wr_cell v15 x3).bind fun v19 => (gi 16 nu_pairCosts v19).bind fun v22 => some (v9 + v22) : Option (Int32)) = some r := hf
  refine lv_aload_n hx hb d_Nu_penaltyOf_0 rfl (lv_at hl 0 rfl) ?_
  refine va_get (D := D) (ci := 0) (v := .ref h_shiftCosts) (C := "WardRoster$Nurse") (T := F_Nu) (N := 8) hx hb hts in_Nu hown hK hP 0 rfl rfl 1 (by decide) (hts _ gw_6) (fun _ h9 => h9) rfl d_Nu_penaltyOf_1 ?_
  refine lv_iload_n hx hb d_Nu_penaltyOf_4 rfl (lv_at hl 1 rfl) ?_
  refine lv_iload_n hx hb d_Nu_penaltyOf_5 rfl (lv_at hl 3 rfl) ?_
  obtain ⟨v6, hv6, hf⟩ := ob hf
  have hPc := hP.sub (ws' := []) [] rfl
  refine rc_i (va_runSN (As := [.int x1, .int x3]) (rest := [.ref h_shiftCosts]) ⟨hx, hb, hml, hown, hts⟩ (c_Wr_cell hv6) ⟨va_cnB 2 hts (gd gw_19) rfl rfl rfl (hN _ nw_1) (hts _ gw_17) hd_Wr_cell ⟨by decide, by decide⟩, (hts _ gw_20), trivial⟩ (preSR hK hN hPc) rfl rfl hl.1 rfl (lv_room (Nat.le_of_ble_eq_true rfl)) d_Nu_penaltyOf_6 ⟨by decide, by decide⟩) ?_
  obtain ⟨v9, hv9, hf⟩ := ob hf
  refine ga_i hx hb hK hP 1 0 rfl rfl hv9 d_Nu_penaltyOf_9 ?_
  refine lv_aload_n hx hb d_Nu_penaltyOf_10 rfl (lv_at hl 0 rfl) ?_
  refine va_get (D := D) (ci := 0) (v := .ref h_pairCosts) (C := "WardRoster$Nurse") (T := F_Nu) (N := 8) hx hb hts in_Nu hown hK hP 0 rfl rfl 2 (by decide) (hts _ gw_11) (fun _ h9 => h9) rfl d_Nu_penaltyOf_11 ?_
  refine lv_iload_n hx hb d_Nu_penaltyOf_14 rfl (lv_at hl 2 rfl) ?_
  obtain ⟨v15, hv15, hf⟩ := ob hf
  have hPc := hP.sub (ws' := []) [] rfl
  refine rc_i (va_runSN (As := [.int x2]) (rest := [.ref h_pairCosts, .int v9]) ⟨hx, hb, hml, hown, hts⟩ (c_Wr_shiftOf hv15) ⟨va_cnB 1 hts (gd gw_16) rfl rfl rfl (hN _ nw_0) (hts _ gw_17) hd_Wr_shiftOf ⟨by decide, by decide⟩, (hts _ gw_18), trivial⟩ (preSR hK hN hPc) rfl rfl hl.1 rfl (lv_room (Nat.le_of_ble_eq_true rfl)) d_Nu_penaltyOf_15 ⟨by decide, by decide⟩) ?_
  refine lv_iload_n hx hb d_Nu_penaltyOf_18 rfl (lv_at hl 3 rfl) ?_
  obtain ⟨v19, hv19, hf⟩ := ob hf
  have hPc := hP.sub (ws' := []) [] rfl
  refine rc_i (va_runSN (As := [.int v15, .int x3]) (rest := [.ref h_pairCosts, .int v9]) ⟨hx, hb, hml, hown, hts⟩ (c_Wr_cell hv19) ⟨va_cnB 2 hts (gd gw_19) rfl rfl rfl (hN _ nw_1) (hts _ gw_17) hd_Wr_cell ⟨by decide, by decide⟩, (hts _ gw_20), trivial⟩ (preSR hK hN hPc) rfl rfl hl.1 rfl (lv_room (Nat.le_of_ble_eq_true rfl)) d_Nu_penaltyOf_19 ⟨by decide, by decide⟩) ?_
  obtain ⟨v22, hv22, hf⟩ := ob hf
  refine ga_i hx hb hK hP 2 0 rfl rfl hv22 d_Nu_penaltyOf_22 ?_
  refine lv_iadd hx hb d_Nu_penaltyOf_23 ?_
  cases hf
  exact K d_Nu_penaltyOf_24
set_option maxHeartbeats 4000000 in
set_option maxRecDepth 100000 in
theorem c_Nu_penaltyOf {l : Launch} {D : va_G} {cI cJ cZ cN : ClassId} {h h_shiftCosts h_pairCosts h_fixedShifts : Nat} {x1 x2 x3 nu_number nu_forbidden nu_longest nu_start nu_dayCount : Int32} {nu_shiftCosts nu_pairCosts nu_fixedShifts : (Nat → Int32)} {r : Int32} (hf : f_Nu_penaltyOf x1 x2 x3 nu_shiftCosts nu_pairCosts = some r) : CR_i l y_Nu_penaltyOf w_Nu_penaltyOf rm_Nu_penaltyOf [.ref h, .int x1, .int x2, .int x3] D cI cJ cZ cN [(h, .inr (0, [.int nu_number, .ref h_shiftCosts, .ref h_pairCosts, .ref h_fixedShifts, .int nu_forbidden, .int nu_longest, .int nu_start, .int nu_dayCount])), (h_shiftCosts, .inl (cI, 24, .inl nu_shiftCosts)), (h_pairCosts, .inl (cI, 16, .inl nu_pairCosts)), (h_fixedShifts, .inl (cI, 6, .inl nu_fixedShifts))] r := by
  refine Met.ofW (cc := b_Nu_penaltyOf) (maxL := 4) (ret := (some .int)) (by decide) rfl ?_
  intro p e s m args below meth c s₁ B hml hv
  obtain ⟨rfl, hP, hK, hN⟩ := hv
  have hx := B.exec
  have hb := B.bytes
  have hr := B.returns
  have hts := fun w h => atoms_spec (ws := w_Nu_penaltyOf) B.pre w (List.mem_cons_of_mem _ h)
  have hown : s.vm.findClass "WardRoster$Nurse" = some m.cls := findClass_of_methodNamed B.named
  have hlocks := B.notSynchronized
  have hl := lv_entry [.ref h, .int x1, .int x2, .int x3] (n := 4) (Nat.le_of_ble_eq_true rfl)
  rw [lg_entry_eq]
  generalize (lg_sl [.ref h, .int x1, .int x2, .int x3] ++ List.replicate (4 - (lg_sl [.ref h, .int x1, .int x2, .int x3]).length) Slot.unset).toArray = ls at hl ⊢
  have hl : lv_has ls 4 [(0, .ref h), (1, .int x1), (2, .int x2), (3, .int x3)] := hl
  exact T_Nu_penaltyOf_e ⟨hx, hb, hml, hown, hts, hK, hN⟩ hP hl hf (fun hd => W.iret hx hb hr (fun t ht hW => ⟨_, rfl, rfl, ht⟩) (fun _ h => by cases h) hd)
theorem d_Nu_allowsLine_0 : decode b_Nu_allowsLine 0 = .ok (.aload_n 0, 1) := by decide +kernel
theorem d_Nu_allowsLine_1 : decode b_Nu_allowsLine 1 = .ok (.getfield 40, 3) := by decide +kernel
theorem d_Nu_allowsLine_4 : decode b_Nu_allowsLine 4 = .ok (.istore_n 3, 1) := by decide +kernel
theorem d_Nu_allowsLine_5 : decode b_Nu_allowsLine 5 = .ok (.iconst 0, 1) := by decide +kernel
theorem d_Nu_allowsLine_6 : decode b_Nu_allowsLine 6 = .ok (.istore 4, 2) := by decide +kernel
theorem d_Nu_allowsLine_8 : decode b_Nu_allowsLine 8 = .ok (.iload 4, 2) := by decide +kernel
theorem d_Nu_allowsLine_10 : decode b_Nu_allowsLine 10 = .ok (.aload_n 0, 1) := by decide +kernel
theorem d_Nu_allowsLine_11 : decode b_Nu_allowsLine 11 = .ok (.getfield 25, 3) := by decide +kernel
theorem d_Nu_allowsLine_14 : decode b_Nu_allowsLine 14 = .ok (.if_icmp .ge 35, 3) := by decide +kernel
theorem d_Nu_allowsLine_17 : decode b_Nu_allowsLine 17 = .ok (.iload_n 3, 1) := by decide +kernel
theorem d_Nu_allowsLine_18 : decode b_Nu_allowsLine 18 = .ok (.iconst (-1), 1) := by decide +kernel
theorem d_Nu_allowsLine_19 : decode b_Nu_allowsLine 19 = .ok (.if_icmp .eq 30, 3) := by decide +kernel
theorem d_Nu_allowsLine_22 : decode b_Nu_allowsLine 22 = .ok (.aload_n 0, 1) := by decide +kernel
theorem d_Nu_allowsLine_23 : decode b_Nu_allowsLine 23 = .ok (.iload 4, 2) := by decide +kernel
theorem d_Nu_allowsLine_25 : decode b_Nu_allowsLine 25 = .ok (.iload_n 3, 1) := by decide +kernel
theorem d_Nu_allowsLine_26 : decode b_Nu_allowsLine 26 = .ok (.lload_n 1, 1) := by decide +kernel
theorem d_Nu_allowsLine_27 : decode b_Nu_allowsLine 27 = .ok (.aload_n 0, 1) := by decide +kernel
theorem d_Nu_allowsLine_28 : decode b_Nu_allowsLine 28 = .ok (.getfield 21, 3) := by decide +kernel
theorem d_Nu_allowsLine_31 : decode b_Nu_allowsLine 31 = .ok (.iload 4, 2) := by decide +kernel
theorem d_Nu_allowsLine_33 : decode b_Nu_allowsLine 33 = .ok (.invokestatic 57, 3) := by decide +kernel
theorem d_Nu_allowsLine_36 : decode b_Nu_allowsLine 36 = .ok (.invokestatic 60, 3) := by decide +kernel
theorem d_Nu_allowsLine_39 : decode b_Nu_allowsLine 39 = .ok (.invokevirtual 64, 3) := by decide +kernel
theorem d_Nu_allowsLine_42 : decode b_Nu_allowsLine 42 = .ok (.istore_n 3, 1) := by decide +kernel
theorem d_Nu_allowsLine_43 : decode b_Nu_allowsLine 43 = .ok (.iinc 4 1, 3) := by decide +kernel
theorem d_Nu_allowsLine_46 : decode b_Nu_allowsLine 46 = .ok (.goto (-38), 3) := by decide +kernel
theorem d_Nu_allowsLine_49 : decode b_Nu_allowsLine 49 = .ok (.iload_n 3, 1) := by decide +kernel
theorem d_Nu_allowsLine_50 : decode b_Nu_allowsLine 50 = .ok (.iconst (-1), 1) := by decide +kernel
theorem d_Nu_allowsLine_51 : decode b_Nu_allowsLine 51 = .ok (.if_icmp .eq 7, 3) := by decide +kernel
theorem d_Nu_allowsLine_54 : decode b_Nu_allowsLine 54 = .ok (.iconst 1, 1) := by decide +kernel
theorem d_Nu_allowsLine_55 : decode b_Nu_allowsLine 55 = .ok (.goto 4, 3) := by decide +kernel
theorem d_Nu_allowsLine_58 : decode b_Nu_allowsLine 58 = .ok (.iconst 0, 1) := by decide +kernel
theorem d_Nu_allowsLine_59 : decode b_Nu_allowsLine 59 = .ok (.ireturn, 1) := by decide +kernel
def f_Nu_allowsLine_l8 (x1 : Int64) (nu_number : Int32) (nu_forbidden : Int32) (nu_longest : Int32) (nu_dayCount : Int32) (nu_fixedShifts : (Nat → Int32)) (vv : (Int32 × Int32)) : Option ((Int32 × Int32) ⊕ (Int32 × Int32)) :=
  if nu_dayCount ≤ vv.2 then some (.inr (vv.1, vv.2)) else if vv.1 = (-1) then some (.inr (vv.1, vv.2)) else (f_Wr_placeBit nu_number vv.2).bind fun v33 => (f_Wr_shiftAt x1 v33).bind fun v36 => (f_Nu_stateAfter vv.2 vv.1 v36 nu_forbidden nu_longest nu_dayCount nu_fixedShifts).bind fun v39 => some (.inl (v39, (vv.2 + 1)))
def f_Nu_allowsLine_b49 (x3 : Int32) : Option (Int32) :=
  if x3 = (-1) then some (0 : Int32) else some (1 : Int32)
def f_Nu_allowsLine (fu : Nat) (x1 : Int64) (nu_number : Int32) (nu_forbidden : Int32) (nu_longest : Int32) (nu_start : Int32) (nu_dayCount : Int32) (nu_fixedShifts : (Nat → Int32)) : Option (Int32) :=
  (iter (f_Nu_allowsLine_l8 x1 nu_number nu_forbidden nu_longest nu_dayCount nu_fixedShifts) fu (nu_start, (0 : Int32))).bind fun r8 => f_Nu_allowsLine_b49 r8.1
set_option maxHeartbeats 4000000 in
set_option maxRecDepth 100000 in
theorem T_Nu_allowsLine_l8 {p : Program} {l : Launch} {e : Env} {s : State} {m : MethodId} {args : Array Value} {below : List Frame} {meth : Method} {c : Code} {Q : State → Prop} {D : va_G} {cI cJ cZ cN : ClassId} (C : Cx p s m args c b_Nu_allowsLine 5 "WardRoster$Nurse" D cI cJ cZ cN) {h h_shiftCosts h_pairCosts h_fixedShifts : Nat} {x1 : Int64} {x3 x4 nu_number nu_forbidden nu_longest nu_start nu_dayCount : Int32} {nu_shiftCosts nu_pairCosts nu_fixedShifts : (Nat → Int32)} {ls : Array Slot} (hP : va_P D classes [(h, .inr (0, [.int nu_number, .ref h_shiftCosts, .ref h_pairCosts, .ref h_fixedShifts, .int nu_forbidden, .int nu_longest, .int nu_start, .int nu_dayCount])), (h_shiftCosts, .inl (cI, 24, .inl nu_shiftCosts)), (h_pairCosts, .inl (cI, 16, .inl nu_pairCosts)), (h_fixedShifts, .inl (cI, 6, .inl nu_fixedShifts))] s.heap) (hl : lv_has ls 5 [(0, .ref h), (1, .long x1), (3, .int x3), (4, .int x4)]) {q : (Int32 × Int32) ⊕ (Int32 × Int32)} (hf : f_Nu_allowsLine_l8 x1 nu_number nu_forbidden nu_longest nu_dayCount nu_fixedShifts (x3, x4) = some q) (Kc : ∀ v : (Int32 × Int32), q = .inl v → ∀ {ls : Array Slot}, lv_has ls 5 [(0, .ref h), (1, .long x1), (3, .int v.1), (4, .int v.2)] → W p l e rm_Nu_allowsLine s m args below meth c s.heap [] 0 0 Q (F0 m 8 ls [])) (Ke : ∀ v : (Int32 × Int32), q = .inr v → ∀ {ls : Array Slot}, lv_has ls 5 [(3, .int v.1)] → W p l e rm_Nu_allowsLine s m args below meth c s.heap [] 0 0 Q (F0 m 49 ls [])) : W p l e rm_Nu_allowsLine s m args below meth c s.heap [] 0 0 Q (F0 m 8 ls []) := by
  obtain ⟨hx, hb, hml, hown, hts, hK, hN⟩ := id C
  have hf : (if nu_dayCount ≤ x4 then some (.inr (x3, x4)) else if x3 = (-1) then some (.inr (x3, x4)) else (f_Wr_placeBit nu_number x4).bind fun v33 => (f_Wr_shiftAt x1 v33).bind fun v36 => (f_Nu_stateAfter x4 x3 v36 nu_forbidden nu_longest nu_dayCount nu_fixedShifts).bind fun v39 => some (.inl (v39, (x4 + 1))) : Option ((Int32 × Int32) ⊕ (Int32 × Int32))) = some q := hf
  refine lv_iload hx hb d_Nu_allowsLine_8 (lv_at hl 3 rfl) ?_
  refine lv_aload_n hx hb d_Nu_allowsLine_10 rfl (lv_at hl 0 rfl) ?_
  refine va_get (D := D) (ci := 0) (v := .int nu_dayCount) (C := "WardRoster$Nurse") (T := F_Nu) (N := 8) hx hb hts in_Nu hown hK hP 0 rfl rfl 7 (by decide) (hts _ gw_5) (fun _ h9 => h9) rfl d_Nu_allowsLine_11 ?_
  refine lv_icmp_ge (tgt := 49) hx hb d_Nu_allowsLine_14 (by decide) (fun hc0 => ?_) (fun hc0 => ?_)
  · have hf := if_t hc0 hf
    cases hf
    exact Ke _ rfl (lv_sub hl [2] rfl)
  · have hf := if_f hc0 hf
    refine lv_iload_n hx hb d_Nu_allowsLine_17 rfl (lv_at hl 2 rfl) ?_
    refine lv_iconst (v := (-1)) hx hb d_Nu_allowsLine_18 (by decide) ?_
    refine lv_icmp_eq (tgt := 49) hx hb d_Nu_allowsLine_19 (by decide) (fun hc0 => ?_) (fun hc0 => ?_)
    · have hf := if_t hc0 hf
      cases hf
      exact Ke _ rfl (lv_sub hl [2] rfl)
    · have hf := if_f hc0 hf
      refine lv_aload_n hx hb d_Nu_allowsLine_22 rfl (lv_at hl 0 rfl) ?_
      refine lv_iload hx hb d_Nu_allowsLine_23 (lv_at hl 3 rfl) ?_
      refine lv_iload_n hx hb d_Nu_allowsLine_25 rfl (lv_at hl 2 rfl) ?_
      refine lv_lload_n hx hb d_Nu_allowsLine_26 rfl (lv_at hl 1 rfl) ?_
      refine lv_aload_n hx hb d_Nu_allowsLine_27 rfl (lv_at hl 0 rfl) ?_
      refine va_get (D := D) (ci := 0) (v := .int nu_number) (C := "WardRoster$Nurse") (T := F_Nu) (N := 8) hx hb hts in_Nu hown hK hP 0 rfl rfl 0 (by decide) (hts _ gw_25) (fun _ h9 => h9) rfl d_Nu_allowsLine_28 ?_
      refine lv_iload hx hb d_Nu_allowsLine_31 (lv_at hl 3 rfl) ?_
      obtain ⟨v33, hv33, hf⟩ := ob hf
      have hPc := hP.sub (ws' := []) [] rfl
      refine rc_i (va_runSN (As := [.int nu_number, .int x4]) (rest := [.long x1, .int x3, .int x4, .ref h]) ⟨hx, hb, hml, hown, hts⟩ (c_Wr_placeBit hv33) ⟨va_cnB 2 hts (gd gw_26) rfl rfl rfl (hN _ nw_4) (hts _ gw_17) hd_Wr_placeBit ⟨by decide, by decide⟩, (hts _ gw_27), trivial⟩ (preSR hK hN hPc) rfl rfl hl.1 rfl (lv_room (Nat.le_of_ble_eq_true rfl)) d_Nu_allowsLine_33 ⟨by decide, by decide⟩) ?_
      obtain ⟨v36, hv36, hf⟩ := ob hf
      have hPc := hP.sub (ws' := []) [] rfl
      refine rc_i (va_runSN (As := [.long x1, .int v33]) (rest := [.int x3, .int x4, .ref h]) ⟨hx, hb, hml, hown, hts⟩ (c_Wr_shiftAt hv36) ⟨va_cnB 2 hts (gd gw_28) rfl rfl rfl (hN _ nw_5) (hts _ gw_17) hd_Wr_shiftAt ⟨by decide, by decide⟩, (hts _ gw_29), trivial⟩ (preSR hK hN hPc) rfl rfl hl.1 rfl (lv_room (Nat.le_of_ble_eq_true rfl)) d_Nu_allowsLine_36 ⟨by decide, by decide⟩) ?_
      obtain ⟨v39, hv39, hf⟩ := ob hf
      have hPc := hP.sub (ws' := [(h, .inr (0, [.int nu_number, .ref h_shiftCosts, .ref h_pairCosts, .ref h_fixedShifts, .int nu_forbidden, .int nu_longest, .int nu_start, .int nu_dayCount])), (h_shiftCosts, .inl (cI, 24, .inl nu_shiftCosts)), (h_pairCosts, .inl (cI, 16, .inl nu_pairCosts)), (h_fixedShifts, .inl (cI, 6, .inl nu_fixedShifts))]) [0, 1, 2, 3] rfl
      refine rc_i (va_runV (As := [.int x4, .int x3, .int v36]) (rest := []) (b := h) ⟨hx, hb, hml, hown, hts⟩ (c_Nu_stateAfter hv39) (cwV 3 hts (gdV gw_30 gw_31 gw_32 gw_33 gw_34) rfl rfl rfl ⟨rfl, hd_Nu_stateAfter⟩ ⟨by decide, by decide⟩) (preVR hK hN hPc 0 rfl rfl) rfl rfl hl.1 rfl (lv_room (Nat.le_of_ble_eq_true rfl)) d_Nu_allowsLine_39 ⟨by decide, by decide⟩) ?_
      refine lv_istore_n (lv' := [(3, .int v39), (0, .ref h), (1, .long x1), (4, .int x4)]) hx hb d_Nu_allowsLine_42 rfl hl (by decide) rfl (fun ls hl => ?_)
      refine lv_iinc (k := 3) (v := (x4 + 1)) (lv' := [(4, .int (x4 + 1)), (3, .int v39), (0, .ref h), (1, .long x1)]) hx hb d_Nu_allowsLine_43 hl rfl (ii_1 _) (by decide) rfl (fun ls hl => ?_)
      refine lv_goto (tgt := 8) hx hb d_Nu_allowsLine_46 (by decide) ?_
      cases hf
      exact Kc _ rfl (lv_sub hl [2, 3, 1, 0] rfl)
set_option maxHeartbeats 4000000 in
set_option maxRecDepth 100000 in
theorem L_Nu_allowsLine_8 {p : Program} {l : Launch} {e : Env} {s : State} {m : MethodId} {args : Array Value} {below : List Frame} {meth : Method} {c : Code} {Q : State → Prop} {D : va_G} {cI cJ cZ cN : ClassId} (C : Cx p s m args c b_Nu_allowsLine 5 "WardRoster$Nurse" D cI cJ cZ cN) {h h_shiftCosts h_pairCosts h_fixedShifts : Nat} {x1 : Int64} {nu_number nu_forbidden nu_longest nu_start nu_dayCount : Int32} {nu_shiftCosts nu_pairCosts nu_fixedShifts : (Nat → Int32)} : ∀ (n : Nat) (vv : (Int32 × Int32)) {ls : Array Slot}, va_P D classes [(h, .inr (0, [.int nu_number, .ref h_shiftCosts, .ref h_pairCosts, .ref h_fixedShifts, .int nu_forbidden, .int nu_longest, .int nu_start, .int nu_dayCount])), (h_shiftCosts, .inl (cI, 24, .inl nu_shiftCosts)), (h_pairCosts, .inl (cI, 16, .inl nu_pairCosts)), (h_fixedShifts, .inl (cI, 6, .inl nu_fixedShifts))] s.heap → lv_has ls 5 [(0, .ref h), (1, .long x1), (3, .int vv.1), (4, .int vv.2)] → ∀ {r : (Int32 × Int32)}, iter (f_Nu_allowsLine_l8 x1 nu_number nu_forbidden nu_longest nu_dayCount nu_fixedShifts) n vv = some r → (∀ {ls : Array Slot}, lv_has ls 5 [(3, .int r.1)] → W p l e rm_Nu_allowsLine s m args below meth c s.heap [] 0 0 Q (F0 m 49 ls [])) → W p l e rm_Nu_allowsLine s m args below meth c s.heap [] 0 0 Q (F0 m 8 ls []) := by
  intro n
  induction n with
  | zero => intro vv ls hP hl r hf K; cases hf
  | succ n ih =>
    intro vv ls hP hl r hf K
    obtain ⟨q, h1, h2⟩ := it_s hf
    refine T_Nu_allowsLine_l8 C hP hl (q := q) h1 (fun v e => ?_) (fun v e => ?_)
    · subst e
      intro ls hl; exact ih v hP hl h2 K
    · subst e
      cases h2
      intro ls hl; exact K hl
set_option maxHeartbeats 4000000 in
set_option maxRecDepth 100000 in
theorem T_Nu_allowsLine_b49 {p : Program} {l : Launch} {e : Env} {s : State} {m : MethodId} {args : Array Value} {below : List Frame} {meth : Method} {c : Code} {Q : State → Prop} {D : va_G} {cI cJ cZ cN : ClassId} (C : Cx p s m args c b_Nu_allowsLine 5 "WardRoster$Nurse" D cI cJ cZ cN) {h h_shiftCosts h_pairCosts h_fixedShifts : Nat} {x3 nu_number nu_forbidden nu_longest nu_start nu_dayCount : Int32} {nu_shiftCosts nu_pairCosts nu_fixedShifts : (Nat → Int32)} {ls : Array Slot} (hP : va_P D classes [(h, .inr (0, [.int nu_number, .ref h_shiftCosts, .ref h_pairCosts, .ref h_fixedShifts, .int nu_forbidden, .int nu_longest, .int nu_start, .int nu_dayCount])), (h_shiftCosts, .inl (cI, 24, .inl nu_shiftCosts)), (h_pairCosts, .inl (cI, 16, .inl nu_pairCosts)), (h_fixedShifts, .inl (cI, 6, .inl nu_fixedShifts))] s.heap) (hl : lv_has ls 5 [(3, .int x3)]) {r : Int32} (hf : f_Nu_allowsLine_b49 x3 = some r) (K : ∀ {pc : Nat} {ls : Array Slot}, decode b_Nu_allowsLine pc = .ok (.ireturn, 1) → narrow .boolean (.int r) = .int r → W p l e rm_Nu_allowsLine s m args below meth c s.heap [] 0 0 Q (F0 m pc ls [.int r])) : W p l e rm_Nu_allowsLine s m args below meth c s.heap [] 0 0 Q (F0 m 49 ls []) := by
  obtain ⟨hx, hb, hml, hown, hts, hK, hN⟩ := id C
  have hf : (if x3 = (-1) then some (0 : Int32) else some (1 : Int32) : Option (Int32)) = some r := hf
  refine lv_iload_n hx hb d_Nu_allowsLine_49 rfl (lv_at hl 0 rfl) ?_
  refine lv_iconst (v := (-1)) hx hb d_Nu_allowsLine_50 (by decide) ?_
  refine lv_icmp_eq (tgt := 58) hx hb d_Nu_allowsLine_51 (by decide) (fun hc0 => ?_) (fun hc0 => ?_)
  · have hf := if_t hc0 hf
    refine lv_iconst (v := 0) hx hb d_Nu_allowsLine_58 (by decide) ?_
    cases hf
    exact K d_Nu_allowsLine_59 rfl
  · have hf := if_f hc0 hf
    refine lv_iconst (v := 1) hx hb d_Nu_allowsLine_54 (by decide) ?_
    refine lv_goto (tgt := 59) hx hb d_Nu_allowsLine_55 (by decide) ?_
    cases hf
    exact K d_Nu_allowsLine_59 rfl
set_option maxHeartbeats 4000000 in
set_option maxRecDepth 100000 in
theorem T_Nu_allowsLine_e {p : Program} {l : Launch} {e : Env} {s : State} {m : MethodId} {args : Array Value} {below : List Frame} {meth : Method} {c : Code} {Q : State → Prop} {D : va_G} {cI cJ cZ cN : ClassId} (C : Cx p s m args c b_Nu_allowsLine 5 "WardRoster$Nurse" D cI cJ cZ cN) {h h_shiftCosts h_pairCosts h_fixedShifts : Nat} {fu : Nat} {x1 : Int64} {nu_number nu_forbidden nu_longest nu_start nu_dayCount : Int32} {nu_shiftCosts nu_pairCosts nu_fixedShifts : (Nat → Int32)} {ls : Array Slot} (hP : va_P D classes [(h, .inr (0, [.int nu_number, .ref h_shiftCosts, .ref h_pairCosts, .ref h_fixedShifts, .int nu_forbidden, .int nu_longest, .int nu_start, .int nu_dayCount])), (h_shiftCosts, .inl (cI, 24, .inl nu_shiftCosts)), (h_pairCosts, .inl (cI, 16, .inl nu_pairCosts)), (h_fixedShifts, .inl (cI, 6, .inl nu_fixedShifts))] s.heap) (hl : lv_has ls 5 [(0, .ref h), (1, .long x1)]) {r : Int32} (hf : f_Nu_allowsLine fu x1 nu_number nu_forbidden nu_longest nu_start nu_dayCount nu_fixedShifts = some r) (K : ∀ {pc : Nat} {ls : Array Slot}, decode b_Nu_allowsLine pc = .ok (.ireturn, 1) → narrow .boolean (.int r) = .int r → W p l e rm_Nu_allowsLine s m args below meth c s.heap [] 0 0 Q (F0 m pc ls [.int r])) : W p l e rm_Nu_allowsLine s m args below meth c s.heap [] 0 0 Q (F0 m 0 ls []) := by
  obtain ⟨hx, hb, hml, hown, hts, hK, hN⟩ := id C
  have hf : ((iter (f_Nu_allowsLine_l8 x1 nu_number nu_forbidden nu_longest nu_dayCount nu_fixedShifts) fu (nu_start, (0 : Int32))).bind fun r8 => f_Nu_allowsLine_b49 r8.1 : Option (Int32)) = some r := hf
  refine lv_aload_n hx hb d_Nu_allowsLine_0 rfl (lv_at hl 0 rfl) ?_
  refine va_get (D := D) (ci := 0) (v := .int nu_start) (C := "WardRoster$Nurse") (T := F_Nu) (N := 8) hx hb hts in_Nu hown hK hP 0 rfl rfl 6 (by decide) (hts _ gw_15) (fun _ h9 => h9) rfl d_Nu_allowsLine_1 ?_
  refine lv_istore_n (lv' := [(3, .int nu_start), (0, .ref h), (1, .long x1)]) hx hb d_Nu_allowsLine_4 rfl hl (by decide) rfl (fun ls hl => ?_)
  refine lv_iconst (v := 0) hx hb d_Nu_allowsLine_5 (by decide) ?_
  refine lv_istore (lv' := [(4, .int 0), (3, .int nu_start), (0, .ref h), (1, .long x1)]) hx hb d_Nu_allowsLine_6 hl (by decide) rfl (fun ls hl => ?_)
  obtain ⟨r8, h8, hf⟩ := ob hf
  refine L_Nu_allowsLine_8 C fu _ hP (lv_sub hl [2, 3, 1, 0] rfl) h8 (fun {ls : Array Slot} hl => ?_)
  have hl : lv_has _ 5 [(3, .int r8.1)] := hl
  exact T_Nu_allowsLine_b49 C hP (lv_sub hl [0] rfl) hf K
set_option maxHeartbeats 4000000 in
set_option maxRecDepth 100000 in
theorem c_Nu_allowsLine {l : Launch} {D : va_G} {cI cJ cZ cN : ClassId} {h h_shiftCosts h_pairCosts h_fixedShifts : Nat} {fu : Nat} {x1 : Int64} {nu_number nu_forbidden nu_longest nu_start nu_dayCount : Int32} {nu_shiftCosts nu_pairCosts nu_fixedShifts : (Nat → Int32)} {r : Int32} (hf : f_Nu_allowsLine fu x1 nu_number nu_forbidden nu_longest nu_start nu_dayCount nu_fixedShifts = some r) : CR_i l y_Nu_allowsLine w_Nu_allowsLine rm_Nu_allowsLine [.ref h, .long x1] D cI cJ cZ cN [(h, .inr (0, [.int nu_number, .ref h_shiftCosts, .ref h_pairCosts, .ref h_fixedShifts, .int nu_forbidden, .int nu_longest, .int nu_start, .int nu_dayCount])), (h_shiftCosts, .inl (cI, 24, .inl nu_shiftCosts)), (h_pairCosts, .inl (cI, 16, .inl nu_pairCosts)), (h_fixedShifts, .inl (cI, 6, .inl nu_fixedShifts))] r := by
  refine Met.ofW (cc := b_Nu_allowsLine) (maxL := 5) (ret := (some .boolean)) (by decide) rfl ?_
  intro p e s m args below meth c s₁ B hml hv
  obtain ⟨rfl, hP, hK, hN⟩ := hv
  have hx := B.exec
  have hb := B.bytes
  have hr := B.returns
  have hts := fun w h => atoms_spec (ws := w_Nu_allowsLine) B.pre w (List.mem_cons_of_mem _ h)
  have hown : s.vm.findClass "WardRoster$Nurse" = some m.cls := findClass_of_methodNamed B.named
  have hlocks := B.notSynchronized
  have hl := lv_entry [.ref h, .long x1] (n := 5) (Nat.le_of_ble_eq_true rfl)
  rw [lg_entry_eq]
  generalize (lg_sl [.ref h, .long x1] ++ List.replicate (5 - (lg_sl [.ref h, .long x1]).length) Slot.unset).toArray = ls at hl ⊢
  have hl : lv_has ls 5 [(0, .ref h), (1, .long x1)] := hl
  exact T_Nu_allowsLine_e ⟨hx, hb, hml, hown, hts, hK, hN⟩ hP hl hf (fun hd hz => W.zret hx hb hr hz (fun t ht hW => ⟨_, rfl, rfl, ht⟩) (fun _ h => by cases h) hd)
