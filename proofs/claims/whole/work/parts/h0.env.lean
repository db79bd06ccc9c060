/-! what holds at the law's entry, out of the tables and the claim's premises -/
theorem e_prim {s : State} {args : Array Value} {ty : FieldType} (h : (Cond.arrayClass ty).before args s = true) : ∃ cA : ClassId, ArrOfT s cA ty ∧ s.vm.findClass ("[" ++ ty.toString) = some cA := by
  obtain ⟨cA, kA, comp, h1, h2, h3⟩ := Cond.arrayClass_spec h
  exact ⟨cA, fun n z => ⟨fun k h => (by cases h), kA, h2, comp, h3⟩, h1⟩
theorem e_obj {s : State} {args : Array Value} {C : String} (h : (Cond.arrayOver (.object C)).before args s = true) : ∃ cA : ClassId, ArrOfT s cA (.object C) ∧ va_RA s cA (.object C) := by
  obtain ⟨comp, cA, kA, h1, _, h2, h3, h4⟩ := Cond.arrayOver_spec h
  exact ⟨cA, fun N z => ⟨(fun k h => by cases h), kA, h2, comp, h3⟩, kA, comp, h2, h3, h1, h4⟩
theorem e_K {s : State} {args : Array Value} (hts2 : ∀ w ∈ lw_tbl, w.before args s = true) : ∃ (D : va_G) (cI cJ cZ cN : ClassId), va_K D classes (tysW cI cJ cZ cN) s := by
  obtain ⟨c0, i0, k0⟩ := u_known hts2 wu_Nu (hts2 _ (t1_1 33 rfl))
  obtain ⟨c1, i1, k1⟩ := u_known hts2 wu_Wa (hts2 _ (t1_1 26 rfl))
  obtain ⟨c2, i2, k2⟩ := u_known hts2 wu_Lw (hts2 _ (t1_1 94 rfl))
  obtain ⟨c3, i3, k3⟩ := u_known hts2 wu_Rs (hts2 _ (t1_1 114 rfl))
  obtain ⟨c4, i4, k4⟩ := u_known hts2 wu_Pr (hts2 _ (t1_1 133 rfl))
  obtain ⟨c5, i5, k5⟩ := u_known hts2 wu_Wr (hts2 _ (t1_1 18 rfl))
  obtain ⟨c6, i6, k6⟩ := u_known hts2 wu_Wm (hts2 _ (t1_3 145 rfl))
  obtain ⟨cI, a1, a2⟩ := e_prim (hts2 _ (t1_1 74 rfl))
  obtain ⟨cJ, b1, b2⟩ := e_prim (hts2 _ (t1_1 112 rfl))
  obtain ⟨cZ, d1, d2⟩ := e_prim (hts2 _ (t1_4 0 rfl))
  obtain ⟨cN, n1, n2⟩ := e_obj (hts2 _ (t1_1 32 rfl))
  refine ⟨(fun c => match c with
    | 0 => c0
    | 1 => c1
    | 2 => c2
    | 3 => c3
    | 4 => c4
    | 5 => c5
    | _ => c6, fun c => match c with
    | 0 => i0
    | 1 => i1
    | 2 => i2
    | 3 => i3
    | 4 => i4
    | 5 => i5
    | _ => i6), cI, cJ, cZ, cN, fun c q h => ?_, fun k q h => ?_⟩
  · rcases c with _ | _ | _ | _ | _ | _ | _ | c
    · cases h; exact k0
    · cases h; exact k1
    · cases h; exact k2
    · cases h; exact k3
    · cases h; exact k4
    · cases h; exact k5
    · cases h; exact k6
    · cases h
  · rcases k with _ | _ | _ | _ | k
    · cases h; exact ⟨a1, a2⟩
    · cases h; exact ⟨b1, b2⟩
    · cases h; exact ⟨d1, d2⟩
    · cases h; exact ⟨n1, n2⟩
    · cases h
theorem nw_of {w : Cond} {A : Array Value} {U : State} (h : isNW w = true) (hw : w.before A U = true) : va_Nw w U := by
  cases w with
  | arrayOver t =>
    cases t with
    | object C => exact hw
    | _ => exact absurd h (by simp [isNW])
  | methodLinkNest a i x h => exact va_Nw.of rfl hw
  | fieldLinkNest a i b n d h => exact va_Nw.of rfl hw
  | _ => exact absurd h (by simp [isNW])
theorem TW_on : ∀ w ∈ TWL, w.onTables = true := by
  intro w hw
  unfold TWL at hw
  rcases List.mem_append.mp hw with hw | hw
  · exact List.all_eq_true.mp (by decide +kernel : TX0.all (fun w => w.onTables) = true) w hw
  · rcases List.mem_append.mp hw with hw | hw
    · exact aI_on w hw
    · rcases List.mem_append.mp hw with hw | hw
      · exact aA_on w hw
      · rcases List.mem_append.mp hw with hw | hw
        · exact aS_on w hw
        · exact aN_on w hw
theorem e_Z {s : State} {args : Array Value} {n d : String} (h1 : (Cond.laysStatic Bundle.tN n d).before args s = true) (h2 : (Cond.isRef (.static Bundle.tN n d)).before args s = true) : ZF n d (fun q => s.heap.size ≤ q) s s.heap := by
  obtain ⟨c, k, i, f, a, cell, x1, x2, x3, x4, x5, x6, x7, x8, x9⟩ := Cond.laysStatic_spec h1
  obtain ⟨v, y1, y2⟩ := Cond.isRef_spec h2
  have he : cell.slots[f.slot]? = some v := by
    simpa [Term.eval, State.fieldNamed?, x2, x3, x4, x5, x6] using y1
  exact ⟨c, k, i, f, a, cell, v, x1, x2, x3, x4, x5, x6, x7, x8, x9, he, y2, fun q => absurd (Array.getElem?_eq_some_iff.mp x5).1 (Nat.not_lt.mpr q)⟩
theorem e_S {s : State} {args : Array Value} (hts2 : ∀ w ∈ lw_tbl, w.before args s = true) {k : Nat} {tx : String} (h : Cond.stringRef "WardRoster" k tx ∈ lw_tbl) : ∃ a, vk_R "WardRoster" k tx a s := by
  obtain ⟨cC, kC, hfc, _⟩ := Cond.instantiable_spec (hts2 _ (t1_1 18 rfl))
  obtain ⟨k', cf, i, a, _, _, _, _, _, h6⟩ := Cond.stringRef_spec hfc (hts2 _ h)
  exact ⟨a, vk_R.of (hts2 _ h) h6⟩
theorem e_T {s : State} {args : Array Value} (hts2 : ∀ w ∈ lw_tbl, w.before args s = true) : KT s := by
  refine ⟨fun w hw => va_Nw.of (TW_on w hw) (hts2 w (wi_T w hw)), fun q hq => ?_⟩
  simp only [TSL, List.mem_cons, List.not_mem_nil, or_false] at hq
  rcases hq with rfl | rfl | rfl | rfl | rfl | rfl | rfl
  · exact e_S hts2 (t1_2 170 rfl)
  · exact e_S hts2 (t1_2 197 rfl)
  · exact e_S hts2 (t1_2 201 rfl)
  · exact e_S hts2 (t1_2 123 rfl)
  · exact e_S hts2 (t1_3 78 rfl)
  · exact e_S hts2 (t1_3 136 rfl)
  · exact e_S hts2 (t1_3 48 rfl)
