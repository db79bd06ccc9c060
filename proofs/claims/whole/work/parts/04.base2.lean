/-! what every contract is over: the classes, the tables' words, a method's world -/
abbrev tysW (cI cJ cZ cN : ClassId) : List (ClassId × FieldType) := [(cI, .int), (cJ, .long), (cZ, .boolean), (cN, .object "WardRoster$Nurse")]
def KK (D : va_G) (cI cJ cZ cN : ClassId) (U : State) : Prop := va_K D classes (tysW cI cJ cZ cN) U ∧ ∀ w ∈ NWL, va_Nw w U
def Cx (p : Program) (s : State) (m : MethodId) (args : Array Value) (c : Code) (cc : ByteArray) (nL : Nat) (own : String) (D : va_G) (cI cJ cZ cN : ClassId) : Prop :=
  p.tables.exec = Jvm.exec ∧ c.code = cc ∧ c.maxLocals = nL ∧ s.vm.findClass own = some m.cls ∧ (∀ w ∈ GW, w.before args s = true) ∧ va_K D classes (tysW cI cJ cZ cN) s ∧ ∀ w ∈ NWL, va_Nw w s
theorem NWL_ok : ∀ w ∈ NWL, isNW w = true := by decide +kernel
theorem KK.warm {D : va_G} {cI cJ cZ cN : ClassId} {s U : State} (hW : s.WarmedH U.vm) (h : KK D cI cJ cZ cN s) : KK D cI cJ cZ cN U := ⟨va_K.moved hW.alike h.1, fun w hw => nw_warm hW (NWL_ok w hw) (h.2 w hw)⟩
theorem KK.same {D : va_G} {cI cJ cZ cN : ClassId} {s U : State} (hv : s.vm = U.vm) (h : KK D cI cJ cZ cN s) : KK D cI cJ cZ cN U := ⟨va_K.moved (by rw [hv]; exact Vm.Alike.refl _) h.1, fun w hw => nw_same hv (NWL_ok w hw) (h.2 w hw)⟩
def CR_i (l : Launch) (y : MethodName) (ws : List Cond) (rm : Room) (as : List Value) (D : va_G) (cI cJ cZ cN : ClassId) (wc : va_W) (r : Int32) : Prop :=
  Met l y ws rm (va_Pc as (fun U => va_P D classes wc U.heap ∧ KK D cI cJ cZ cN U)) (vp_Si (fun x => x = r)) 0 0 (fun _ => False)
def CR_v (l : Launch) (y : MethodName) (ws : List Cond) (rm : Room) (as : List Value) (D : va_G) (cI cJ cZ cN : ClassId) (wc : va_W) : Prop :=
  Met l y ws rm (va_Pc as (fun U => va_P D classes wc U.heap ∧ KK D cI cJ cZ cN U)) (va_Sv (fun _ => True)) 0 0 (fun _ => False)
def CR_l (l : Launch) (y : MethodName) (ws : List Cond) (rm : Room) (as : List Value) (D : va_G) (cI cJ cZ cN : ClassId) (wc : va_W) (r : Int64) : Prop :=
  Met l y ws rm (va_Pc as (fun U => va_P D classes wc U.heap ∧ KK D cI cJ cZ cN U)) (vp_Sl (fun x => x = r)) 0 0 (fun _ => False)
def CW_v (l : Launch) (y : MethodName) (ws : List Cond) (rm : Room) (as : List Value) (D : va_G) (cI cJ cZ cN : ClassId) (wc : va_W) (P1 : va_W → Prop) : Prop :=
  ∀ sz : Nat, Met l y ws rm (va_Pc as (fun U => U.heap.size = sz ∧ va_P D classes wc U.heap ∧ KK D cI cJ cZ cN U ∧ va_D (fun _ => True) wc)) (va_Qv P1 (fun w1 t => va_P D classes w1 t.heap ∧ va_D (va_A wc sz) w1) (va_A wc sz)) rm.cells rm.slots (va_A wc sz)
def CW_i (l : Launch) (y : MethodName) (ws : List Cond) (rm : Room) (as : List Value) (D : va_G) (cI cJ cZ cN : ClassId) (wc : va_W) (P1 : Int32 → va_W → Prop) : Prop :=
  ∀ sz : Nat, Met l y ws rm (va_Pc as (fun U => U.heap.size = sz ∧ va_P D classes wc U.heap ∧ KK D cI cJ cZ cN U ∧ va_D (fun _ => True) wc)) (va_Qi P1 (fun w1 t => va_P D classes w1 t.heap ∧ va_D (va_A wc sz) w1) (va_A wc sz)) rm.cells rm.slots (va_A wc sz)
def CW_l (l : Launch) (y : MethodName) (ws : List Cond) (rm : Room) (as : List Value) (D : va_G) (cI cJ cZ cN : ClassId) (wc : va_W) (P1 : Int64 → va_W → Prop) : Prop :=
  ∀ sz : Nat, Met l y ws rm (va_Pc as (fun U => U.heap.size = sz ∧ va_P D classes wc U.heap ∧ KK D cI cJ cZ cN U ∧ va_D (fun _ => True) wc)) (va_Ql P1 (fun w1 t => va_P D classes w1 t.heap ∧ va_D (va_A wc sz) w1) (va_A wc sz)) rm.cells rm.slots (va_A wc sz)
section PRE
variable {s : State} {H : Heap} {D : va_G} {cI cJ cZ cN : ClassId} {wc : va_W} {As : List Value} {A : Nat → Prop} {b : Nat}
theorem preSR (hK : va_K D classes (tysW cI cJ cZ cN) s) (hN : ∀ w ∈ NWL, va_Nw w s) (hP : va_P D classes wc H) : PreS s H (va_Pc As (fun U => va_P D classes wc U.heap ∧ KK D cI cJ cZ cN U)) As :=
  ⟨fun _ U g mk q => ⟨q.1, q.2.1, KK.same (s := U) rfl q.2.2⟩, fun _ hU hW => ⟨rfl, by rw [hU]; exact hP, KK.warm hW ⟨hK, hN⟩⟩⟩
theorem preVR (hK : va_K D classes (tysW cI cJ cZ cN) s) (hN : ∀ w ∈ NWL, va_Nw w s) (hP : va_P D classes wc H) (q0 : Nat) {ci : Nat} {fs : List Value} {C : String} {T : u_T} {N : Nat} (he : wc[q0]? = some (b, .inr (ci, fs))) (hc : classes[ci]? = some (C, T, N)) : PreV s H C b (va_Pc (.ref b :: As) (fun U => va_P D classes wc U.heap ∧ KK D cI cJ cZ cN U)) As :=
  ⟨fun _ U g mk q => ⟨q.1, q.2.1, KK.same (s := U) rfl q.2.2⟩, va_recv hK hP hc he, fun _ hU hW => ⟨rfl, by rw [hU]; exact hP, KK.warm hW ⟨hK, hN⟩⟩⟩
theorem preSW (hK : va_K D classes (tysW cI cJ cZ cN) s) (hN : ∀ w ∈ NWL, va_Nw w s) (hP : va_P D classes wc H) (hD : va_D A wc) : PreS s H (va_Pc As (fun U => U.heap.size = H.size ∧ va_P D classes wc U.heap ∧ KK D cI cJ cZ cN U ∧ va_D (fun _ => True) wc)) As :=
  ⟨fun _ U g mk q => ⟨q.1, q.2.1, q.2.2.1, KK.same (s := U) rfl q.2.2.2.1, q.2.2.2.2⟩, fun _ hU hW => ⟨rfl, by rw [hU], by rw [hU]; exact hP, KK.warm hW ⟨hK, hN⟩, hD.weaken (fun _ _ _ _ => trivial)⟩⟩
theorem preVW (hK : va_K D classes (tysW cI cJ cZ cN) s) (hN : ∀ w ∈ NWL, va_Nw w s) (hP : va_P D classes wc H) (hD : va_D A wc) (q0 : Nat) {ci : Nat} {fs : List Value} {C : String} {T : u_T} {N : Nat} (he : wc[q0]? = some (b, .inr (ci, fs))) (hc : classes[ci]? = some (C, T, N)) : PreV s H C b (va_Pc (.ref b :: As) (fun U => U.heap.size = H.size ∧ va_P D classes wc U.heap ∧ KK D cI cJ cZ cN U ∧ va_D (fun _ => True) wc)) As :=
  ⟨fun _ U g mk q => ⟨q.1, q.2.1, q.2.2.1, KK.same (s := U) rfl q.2.2.2.1, q.2.2.2.2⟩, va_recv hK hP hc he, fun _ hU hW => ⟨rfl, by rw [hU], by rw [hU]; exact hP, KK.warm hW ⟨hK, hN⟩, hD.weaken (fun _ _ _ _ => trivial)⟩⟩
end PRE
theorem gd {y : MethodName} {b : ByteArray} {n : Nat} {r : Option FieldType} (h : Cond.code y b n r ∈ GW) : GoodIn GW (.code y b n r :: GW) := fun w hw => by
  rcases List.mem_cons.mp hw with rfl | hw
  · exact ⟨h, GW_good _ h⟩
  · exact ⟨hw, GW_good _ hw⟩
theorem gdV {y : MethodName} {b : ByteArray} {n ix : Nat} {r : Option FieldType} {own C : String} (h1 : Cond.methodLink own ix y ∈ GW) (h2 : Cond.instanceMethod y ∈ GW) (h3 : Cond.selects C y y ∈ GW) (h4 : Cond.initialized C ∈ GW) (h : Cond.code y b n r ∈ GW) : GoodIn GW (wsV own ix C y (.code y b n r :: GW)) := fun w hw => by
  rcases List.mem_append.mp hw with hw | hw
  · simp only [List.mem_cons, List.not_mem_nil, or_false] at hw
    rcases hw with rfl | rfl | rfl | rfl
    · exact ⟨h1, GW_good _ h1⟩
    · exact ⟨h2, GW_good _ h2⟩
    · exact ⟨h3, GW_good _ h3⟩
    · exact ⟨h4, GW_good _ h4⟩
  · exact gd h w hw
theorem gdS {y : MethodName} {b : ByteArray} {n ix : Nat} {r : Option FieldType} {own : String} (h1 : Cond.methodLink own ix y ∈ GW) (h2 : Cond.static y ∈ GW) (h3 : Cond.initialized own ∈ GW) (h : Cond.code y b n r ∈ GW) : GoodIn GW (wsS own ix y (.code y b n r :: GW)) := fun w hw => by
  rcases List.mem_append.mp hw with hw | hw
  · simp only [List.mem_cons, List.not_mem_nil, or_false] at hw
    rcases hw with rfl | rfl | rfl
    · exact ⟨h1, GW_good _ h1⟩
    · exact ⟨h2, GW_good _ h2⟩
    · exact ⟨h3, GW_good _ h3⟩
  · exact gd h w hw

section NEWS
variable {p : Program} {l : Launch} {e : Env} {R : Room} {s : State} {m : MethodId} {args : Array Value} {below : List Frame} {meth : Method} {c : Code} {H : Heap} {locs : List Loc} {cells slots : Nat} {Q : State → Prop}
variable {cc : ByteArray} {pc : Nat} {ls : Array Slot} {rest : List Value} {D : va_G} {A : Nat → Prop} {cI cJ cZ cN : ClassId} {ws : va_W} {H0 : Heap}
theorem na_i (hexec : p.tables.exec = Jvm.exec) (hb : c.code = cc) {atype : ArrayType} (harr : (Cond.arrayClass .int).before args s = true) (hK : va_K D classes (tysW cI cJ cZ cN) s) (hP : va_P D classes ws H) (hD : va_D A ws) (hS : va_S A H0 H locs) (hA : ∀ q, H0.size ≤ q → A q)
    {n : Int32} {N' : Nat} (hn : ¬ n < 0) (hN : n.toNatClampNeg = N') (hbytes : N' * componentBytes .int ≤ 536870912) (hcells : cells + 1 ≤ R.cells) (hslots : slots + N' ≤ R.slots) (hdg : decode cc pc = .ok (.newarray atype, 2)) (hty : newarray.typeOf atype = .int)
    (kk : ∀ (q : Nat) (H1 : Heap), va_P D classes (ws ++ [(q, .inl (cI, N', .inl (fun _ => 0)))]) H1 → va_D A (ws ++ [(q, .inl (cI, N', .inl (fun _ => 0)))]) → va_S A H0 H1 locs →
      W p l e R s m args below meth c H1 locs (cells + 1) (slots + N') Q (F0 m (pc + 2) ls (.ref q :: rest))) : W p l e R s m args below meth c H locs cells slots Q (F0 m pc ls (.int n :: rest)) := by
  refine va_newa hexec hb (by rw [hty]; exact harr) (ty := .int) hty hK hP hD hS hA (a0 := (N', .inl (fun _ => 0))) (fun cA => rfl) hn hN hbytes hcells hslots hdg (fun q cA H1 hK1 hP1 hD1 hS1 => ?_)
  have e1 : s.vm.findClass ("[" ++ FieldType.int.toString) = some cI := (hK.2 0 _ rfl).2
  have e2 : s.vm.findClass ("[" ++ FieldType.int.toString) = some cA := (hK1.2 4 _ rfl).2
  cases Option.some.inj (e1.symm.trans e2)
  exact kk q H1 hP1 hD1 hS1
theorem na_j (hexec : p.tables.exec = Jvm.exec) (hb : c.code = cc) {atype : ArrayType} (harr : (Cond.arrayClass .long).before args s = true) (hK : va_K D classes (tysW cI cJ cZ cN) s) (hP : va_P D classes ws H) (hD : va_D A ws) (hS : va_S A H0 H locs) (hA : ∀ q, H0.size ≤ q → A q)
    {n : Int32} {N' : Nat} (hn : ¬ n < 0) (hN : n.toNatClampNeg = N') (hbytes : N' * componentBytes .long ≤ 536870912) (hcells : cells + 1 ≤ R.cells) (hslots : slots + N' ≤ R.slots) (hdg : decode cc pc = .ok (.newarray atype, 2)) (hty : newarray.typeOf atype = .long)
    (kk : ∀ (q : Nat) (H1 : Heap), va_P D classes (ws ++ [(q, .inl (cJ, N', .inr (.inl (fun _ => 0))))]) H1 → va_D A (ws ++ [(q, .inl (cJ, N', .inr (.inl (fun _ => 0))))]) → va_S A H0 H1 locs →
      W p l e R s m args below meth c H1 locs (cells + 1) (slots + N') Q (F0 m (pc + 2) ls (.ref q :: rest))) : W p l e R s m args below meth c H locs cells slots Q (F0 m pc ls (.int n :: rest)) := by
  refine va_newa hexec hb (by rw [hty]; exact harr) (ty := .long) hty hK hP hD hS hA (a0 := (N', .inr (.inl (fun _ => 0)))) (fun cA => rfl) hn hN hbytes hcells hslots hdg (fun q cA H1 hK1 hP1 hD1 hS1 => ?_)
  have e1 : s.vm.findClass ("[" ++ FieldType.long.toString) = some cJ := (hK.2 1 _ rfl).2
  have e2 : s.vm.findClass ("[" ++ FieldType.long.toString) = some cA := (hK1.2 4 _ rfl).2
  cases Option.some.inj (e1.symm.trans e2)
  exact kk q H1 hP1 hD1 hS1
theorem na_z (hexec : p.tables.exec = Jvm.exec) (hb : c.code = cc) {atype : ArrayType} (harr : (Cond.arrayClass .boolean).before args s = true) (hK : va_K D classes (tysW cI cJ cZ cN) s) (hP : va_P D classes ws H) (hD : va_D A ws) (hS : va_S A H0 H locs) (hA : ∀ q, H0.size ≤ q → A q)
    {n : Int32} {N' : Nat} (hn : ¬ n < 0) (hN : n.toNatClampNeg = N') (hbytes : N' * componentBytes .boolean ≤ 536870912) (hcells : cells + 1 ≤ R.cells) (hslots : slots + N' ≤ R.slots) (hdg : decode cc pc = .ok (.newarray atype, 2)) (hty : newarray.typeOf atype = .boolean)
    (kk : ∀ (q : Nat) (H1 : Heap), va_P D classes (ws ++ [(q, .inl (cZ, N', .inl (fun _ => 0)))]) H1 → va_D A (ws ++ [(q, .inl (cZ, N', .inl (fun _ => 0)))]) → va_S A H0 H1 locs →
      W p l e R s m args below meth c H1 locs (cells + 1) (slots + N') Q (F0 m (pc + 2) ls (.ref q :: rest))) : W p l e R s m args below meth c H locs cells slots Q (F0 m pc ls (.int n :: rest)) := by
  refine va_newa hexec hb (by rw [hty]; exact harr) (ty := .boolean) hty hK hP hD hS hA (a0 := (N', .inl (fun _ => 0))) (fun cA => rfl) hn hN hbytes hcells hslots hdg (fun q cA H1 hK1 hP1 hD1 hS1 => ?_)
  have e1 : s.vm.findClass ("[" ++ FieldType.boolean.toString) = some cZ := (hK.2 2 _ rfl).2
  have e2 : s.vm.findClass ("[" ++ FieldType.boolean.toString) = some cA := (hK1.2 4 _ rfl).2
  cases Option.some.inj (e1.symm.trans e2)
  exact kk q H1 hP1 hD1 hS1
theorem na_q (hexec : p.tables.exec = Jvm.exec) (hb : c.code = cc) {own : String} {index : Nat} (hown : s.vm.findClass own = some m.cls) (hclink : (Cond.classLink own index "WardRoster$Nurse").before args s = true) (hover : va_Nw (.arrayOver (.object "WardRoster$Nurse")) s) (hK : va_K D classes (tysW cI cJ cZ cN) s) (hP : va_P D classes ws H) (hD : va_D A ws) (hS : va_S A H0 H locs) (hA : ∀ q, H0.size ≤ q → A q)
    {n : Int32} {N' : Nat} (hn : ¬ n < 0) (hN : n.toNatClampNeg = N') (hbytes : N' * 4 ≤ 536870912) (hcells : cells + 1 ≤ R.cells) (hslots : slots + N' ≤ R.slots) (hdg : decode cc pc = .ok (.anewarray index, 3))
    (kk : ∀ (q : Nat) (H1 : Heap), va_P D classes (ws ++ [(q, .inl (cN, N', .inr (.inr (.inr (.inr (fun _ => none))))))]) H1 → va_D A (ws ++ [(q, .inl (cN, N', .inr (.inr (.inr (.inr (fun _ => none))))))]) → va_S A H0 H1 locs →
      W p l e R s m args below meth c H1 locs (cells + 1) (slots + N') Q (F0 m (pc + 3) ls (.ref q :: rest))) : W p l e R s m args below meth c H locs cells slots Q (F0 m pc ls (.int n :: rest)) := by
  refine va_newq hexec hb hown hclink hover hK hP hD hS hA hn hN hbytes hcells hslots hdg (fun q cA H1 hK1 hP1 hD1 hS1 => ?_)
  obtain ⟨kA, comp, -, -, -, e1⟩ := (hK.2 3 _ rfl).2
  obtain ⟨kA2, comp2, -, -, -, e2⟩ := (hK1.2 4 _ rfl).2
  cases Option.some.inj (e1.symm.trans e2)
  exact kk q H1 hP1 hD1 hS1
end NEWS
