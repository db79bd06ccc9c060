/-! contracts of methods that throw -/
def isDC : Cond → Bool
  | .declares _ => true
  | .castable _ _ => true
  | _ => false
theorem tw_warm {s U : State} (hW : s.WarmedH U.vm) {w : Cond} (h : (goodWord w || isDC w) = true) (hz : va_Nw w s) : va_Nw w U := by
  rcases Bool.or_eq_true_iff.mp h with h | h
  · exact word_at hW (good_of_word h) hz
  · cases w with
    | declares x => exact va_Nw.warmD hW hz
    | castable a b => exact va_tabs rfl (rfl : (s.setVm U.vm).vm = U.vm) (by rw [Cond.castable_setVm hW.alike]; exact hz)
    | _ => exact absurd h (by simp [isDC])
def sixN : ByteArray := ⟨#[0x2a, 0x2b, 0xb7, 0x00, 0x0d, 0xb1]⟩
abbrev aI : List Cond := atE "WardRoster" 180 "java/lang/IndexOutOfBoundsException" "java/lang/RuntimeException" 7 Bundle.six ["java/lang/Exception"]
abbrev aA : List Cond := atE "WardRoster" 191 "java/lang/IllegalArgumentException" "java/lang/RuntimeException" 7 Bundle.six ["java/lang/Exception"]
abbrev aS : List Cond := atE "WardRoster" 196 "java/lang/IllegalStateException" "java/lang/RuntimeException" 7 Bundle.six ["java/lang/Exception"]
abbrev aN : List Cond := atE "WardRoster" 203 "java/util/NoSuchElementException" "java/lang/RuntimeException" 13 sixN ["java/lang/Exception"]
def TX0 : List Cond := [.classLink "WardRoster" 176 "java/lang/IndexOutOfBoundsException", .classLink "WardRoster" 187 "java/lang/IllegalArgumentException", .classLink "WardRoster" 192 "java/lang/IllegalStateException", .classLink "WardRoster" 199 "java/util/NoSuchElementException",
  .initialized "java/lang/IndexOutOfBoundsException", .initialized "java/lang/IllegalArgumentException", .initialized "java/lang/IllegalStateException", .initialized "java/util/NoSuchElementException"]
def TWL : List Cond := TX0 ++ (aI.filter noZ ++ (aA.filter noZ ++ (aS.filter noZ ++ aN.filter noZ)))
def TSL : List (Nat × String) := [(178, "there is no such nurse"), (183, "there is no such day"), (185, "there is no such shift"), (189, "a value is outside its range"), (194, "some nurse has no legal line"), (197, "there is no plan"), (201, "there is no roster")]
theorem TX_ok : TX0.all (fun w => goodWord w || isDC w) = true := by decide +kernel
theorem aI_ok : (aI.filter noZ).all (fun w => goodWord w || isDC w) = true := by decide +kernel
theorem aA_ok : (aA.filter noZ).all (fun w => goodWord w || isDC w) = true := by decide +kernel
theorem aS_ok : (aS.filter noZ).all (fun w => goodWord w || isDC w) = true := by decide +kernel
theorem aN_ok : (aN.filter noZ).all (fun w => goodWord w || isDC w) = true := by decide +kernel
theorem TWL_ok : ∀ w ∈ TWL, (goodWord w || isDC w) = true := by
  intro w hw
  unfold TWL at hw
  rcases List.mem_append.mp hw with hw | hw
  · exact List.all_eq_true.mp TX_ok w hw
  · rcases List.mem_append.mp hw with hw | hw
    · exact List.all_eq_true.mp aI_ok w hw
    · rcases List.mem_append.mp hw with hw | hw
      · exact List.all_eq_true.mp aA_ok w hw
      · rcases List.mem_append.mp hw with hw | hw
        · exact List.all_eq_true.mp aS_ok w hw
        · exact List.all_eq_true.mp aN_ok w hw
theorem aI_on : ∀ w ∈ aI.filter noZ, w.onTables = true := List.all_eq_true.mp (by decide +kernel : (aI.filter noZ).all (fun w => w.onTables) = true)
theorem aA_on : ∀ w ∈ aA.filter noZ, w.onTables = true := List.all_eq_true.mp (by decide +kernel : (aA.filter noZ).all (fun w => w.onTables) = true)
theorem aS_on : ∀ w ∈ aS.filter noZ, w.onTables = true := List.all_eq_true.mp (by decide +kernel : (aS.filter noZ).all (fun w => w.onTables) = true)
theorem aN_on : ∀ w ∈ aN.filter noZ, w.onTables = true := List.all_eq_true.mp (by decide +kernel : (aN.filter noZ).all (fun w => w.onTables) = true)
theorem aI_in : ∀ w ∈ aI.filter noZ, w ∈ TWL := fun _ h => List.mem_append_right _ (List.mem_append_left _ h)
theorem aA_in : ∀ w ∈ aA.filter noZ, w ∈ TWL := fun _ h => List.mem_append_right _ (List.mem_append_right _ (List.mem_append_left _ h))
theorem aS_in : ∀ w ∈ aS.filter noZ, w ∈ TWL := fun _ h => List.mem_append_right _ (List.mem_append_right _ (List.mem_append_right _ (List.mem_append_left _ h)))
theorem aN_in : ∀ w ∈ aN.filter noZ, w ∈ TWL := fun _ h => List.mem_append_right _ (List.mem_append_right _ (List.mem_append_right _ (List.mem_append_right _ h)))
theorem tx_in (k : Nat) {w : Cond} (h : TX0[k]? = some w) : w ∈ TWL := List.mem_append_left _ (List.mem_of_getElem? h)
/-- what the tables say of the throws -/
def KT (U : State) : Prop := (∀ w ∈ TWL, va_Nw w U) ∧ ∀ q ∈ TSL, ∃ a, vk_R "WardRoster" q.1 q.2 a U
theorem KT.warm {s U : State} (hW : s.WarmedH U.vm) (h : KT s) : KT U := ⟨fun w hw => tw_warm hW (TWL_ok w hw) (h.1 w hw), fun q hq => by
  obtain ⟨a, ha⟩ := h.2 q hq
  exact ⟨a, ha.warm hW⟩⟩
theorem KT.same {s U : State} (hv : s.vm = U.vm) (h : KT s) : KT U := h.warm (by rw [← hv]; exact State.WarmedH.refl s)
/-- the world behind a throw -/
def XW (D : va_G) (A1 : Nat → Prop) (P1 : va_W → Prop) (st t : State) : Prop := (∃ w1, P1 w1 ∧ va_P D classes w1 t.heap ∧ va_D A1 w1) ∧ va_F A1 st t
def xn : Nat → String
  | 1 => "java/lang/IndexOutOfBoundsException"
  | 2 => "java/lang/IllegalArgumentException"
  | 3 => "java/lang/IllegalStateException"
  | _ => "java/util/NoSuchElementException"
def XT (l : Launch) (y : MethodName) (ws : List Cond) (rm : Room) (as : List Value) (D : va_G) (cI cJ cZ cN : ClassId) (wc : va_W) (k : Nat) (P1 : va_W → Prop) : Prop :=
  ∀ sz : Nat, TMet l y ws rm (va_Pc as (fun U => U.heap.size = sz ∧ va_P D classes wc U.heap ∧ KK D cI cJ cZ cN U ∧ va_D (fun _ => True) wc ∧ ZZ (va_A wc sz) U U.heap ∧ KT U)) (xn k) (XW D (va_A wc sz) P1) rm.cells rm.slots (va_A wc sz)
section PREX
variable {s : State} {H : Heap} {D : va_G} {cI cJ cZ cN : ClassId} {wc : va_W} {As : List Value} {A : Nat → Prop} {b : Nat} {locs : List Loc}
theorem preSX (hK : va_K D classes (tysW cI cJ cZ cN) s) (hN : ∀ w ∈ NWL, va_Nw w s) (hP : va_P D classes wc H) (hD : va_D A wc) (hZ : ZZ A s s.heap) (hS : va_S A s.heap H locs) (hF : ∀ q, va_A wc H.size q → A q) (hT : KT s) :
    PreS s H (va_Pc As (fun U => U.heap.size = H.size ∧ va_P D classes wc U.heap ∧ KK D cI cJ cZ cN U ∧ va_D (fun _ => True) wc ∧ ZZ (va_A wc H.size) U U.heap ∧ KT U)) As :=
  ⟨fun _ U g mk q => ⟨q.1, q.2.1, q.2.2.1, KK.same (s := U) rfl q.2.2.2.1, q.2.2.2.2.1, q.2.2.2.2.2.1.moved (Vm.Alike.refl U.vm), KT.same (s := U) rfl q.2.2.2.2.2.2⟩,
   fun _ hU hW => ⟨rfl, by rw [hU], by rw [hU]; exact hP, KK.warm hW ⟨hK, hN⟩, hD.weaken (fun _ _ _ _ => trivial), by rw [hU]; exact ((hZ.kept hS.2.1).narrow hF).moved hW.alike, hT.warm hW⟩⟩
theorem preVX (hK : va_K D classes (tysW cI cJ cZ cN) s) (hN : ∀ w ∈ NWL, va_Nw w s) (hP : va_P D classes wc H) (hD : va_D A wc) (hZ : ZZ A s s.heap) (hS : va_S A s.heap H locs) (hF : ∀ q, va_A wc H.size q → A q) (hT : KT s) (q0 : Nat) {ci : Nat} {fs : List Value} {C : String} {T : u_T} {N : Nat} (he : wc[q0]? = some (b, .inr (ci, fs))) (hc : classes[ci]? = some (C, T, N)) :
    PreV s H C b (va_Pc (.ref b :: As) (fun U => U.heap.size = H.size ∧ va_P D classes wc U.heap ∧ KK D cI cJ cZ cN U ∧ va_D (fun _ => True) wc ∧ ZZ (va_A wc H.size) U U.heap ∧ KT U)) As :=
  ⟨fun _ U g mk q => ⟨q.1, q.2.1, q.2.2.1, KK.same (s := U) rfl q.2.2.2.1, q.2.2.2.2.1, q.2.2.2.2.2.1.moved (Vm.Alike.refl U.vm), KT.same (s := U) rfl q.2.2.2.2.2.2⟩, va_recv hK hP hc he,
   fun _ hU hW => ⟨rfl, by rw [hU], by rw [hU]; exact hP, KK.warm hW ⟨hK, hN⟩, hD.weaken (fun _ _ _ _ => trivial), by rw [hU]; exact ((hZ.kept hS.2.1).narrow hF).moved hW.alike, hT.warm hW⟩⟩
end PREX
section THG
variable {p : Program} {l : Launch} {e : Env} {R : Room} {s : State} {m : MethodId} {args : Array Value} {below : List Frame} {meth : Method} {c : Code} {H H0 : Heap} {locs : List Loc} {cells slots mc ms : Nat} {Q : State → Prop} {pc : Nat} {ls : Array Slot} {st0 rest : List Value} {E : String} {D : va_G} {A0 A1 free : Nat → Prop} {P1 : va_W → Prop}
theorem th_call (hr : TRun p l e R s m args below meth c H locs cells slots mc ms (F0 m pc ls st0) rest E (XW D A1 P1) free) (hS : va_S A0 H0 H locs) (hA : ∀ q, q < H.size → A1 q → A0 q) (hf : ∀ q, free q → A0 q)
    (kk : ∀ (q : Addr) (ce : Cell) (w1 : va_W) (t : State) (H1 : Heap) (locs1 : List Loc), t.heap = H1 → P1 w1 → va_P D classes w1 t.heap → va_D A1 w1 → H.size ≤ H1.size → (∀ q, q < H.size → ¬ A1 q → H1[q]? = H[q]?) → va_S A0 H0 H1 locs1 → H1[q]? = some ce → ce.vm = .none → s.vm.findClass E = some ce.cls →
      TW p l e R s m args below meth c H1 locs1 (cells + mc) (slots + ms) Q (F0 m pc ls rest) q) : W p l e R s m args below meth c H locs cells slots Q (F0 m pc ls st0) := by
  intro T hT X
  obtain ⟨q, st₀, t, T', L, ce, h0, X', hL, e1, e2, ⟨⟨w1, hp, hP1, hD1⟩, hF⟩, hce, hcv, hcl, st⟩ := hr T hT X
  obtain ⟨hF1, hF2⟩ := hF
  rw [h0] at hF1 hF2
  have hS' : va_S A0 H0 t.heap (locs ++ L) := ⟨Nat.le_trans hS.1 hF1, fun q hq hn => by
    rw [hF2 q (Nat.lt_of_lt_of_le hq hS.1) (fun h => hn (hA q (Nat.lt_of_lt_of_le hq hS.1) h))]
    exact hS.2.1 q hq hn, fun z hz => (List.mem_append.mp hz).elim (hS.2.2 z) (fun h => hf _ (hL z h))⟩
  obtain ⟨t2, a1, b1⟩ := kk q ce w1 t t.heap (locs ++ L) rfl hp hP1 hD1 hF1 hF2 hS' hce hcv hcl T' e1 X'
  exact ⟨t2, st.trans a1, b1⟩
end THG
theorem dx0 : decode Bundle.six 0 = .ok (.aload_n 0, 1) := by decide +kernel
theorem dx1 : decode Bundle.six 1 = .ok (.aload_n 1, 1) := by decide +kernel
theorem dx2 : decode Bundle.six 2 = .ok (.invokespecial 7, 3) := by decide +kernel
theorem dx5 : decode Bundle.six 5 = .ok (.return_, 1) := by decide +kernel
theorem dn0 : decode sixN 0 = .ok (.aload_n 0, 1) := by decide +kernel
theorem dn1 : decode sixN 1 = .ok (.aload_n 1, 1) := by decide +kernel
theorem dn2 : decode sixN 2 = .ok (.invokespecial 13, 3) := by decide +kernel
theorem dn5 : decode sixN 5 = .ok (.return_, 1) := by decide +kernel
theorem th_xw {D : va_G} {A : Nat → Prop} {ws : va_W} {s : State} {H : Heap} {locs : List Loc} {P1 : va_W → Prop} (hP : va_P D classes ws H) (hD : va_D A ws) (hS : va_S A s.heap H locs) (h1 : P1 ws) : ∀ t : State, s.vm.Alike t.vm → H.size ≤ t.heap.size → (∀ q : Nat, q < H.size → t.heap[q]? = H[q]?) → XW D A P1 s t :=
  fun t _ hz hk => ⟨⟨ws, h1, hP.kept (fun k q hq => hk q.1 (hP k q hq).lt), hD⟩, Nat.le_trans hS.1 hz, fun q hq hn => (hk q (Nat.lt_of_lt_of_le hq hS.1)).trans (hS.2.1 q hq hn)⟩
