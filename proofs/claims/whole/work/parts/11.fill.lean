theorem d_Ar_fill_I_0 : decode b_Ar_fill_I 0 = .ok (.iconst 0, 1) := by decide +kernel
theorem d_Ar_fill_I_1 : decode b_Ar_fill_I 1 = .ok (.istore_n 2, 1) := by decide +kernel
theorem d_Ar_fill_I_2 : decode b_Ar_fill_I 2 = .ok (.aload_n 0, 1) := by decide +kernel
theorem d_Ar_fill_I_3 : decode b_Ar_fill_I 3 = .ok (.arraylength, 1) := by decide +kernel
theorem d_Ar_fill_I_4 : decode b_Ar_fill_I 4 = .ok (.istore_n 3, 1) := by decide +kernel
theorem d_Ar_fill_I_5 : decode b_Ar_fill_I 5 = .ok (.iload_n 2, 1) := by decide +kernel
theorem d_Ar_fill_I_6 : decode b_Ar_fill_I 6 = .ok (.iload_n 3, 1) := by decide +kernel
theorem d_Ar_fill_I_7 : decode b_Ar_fill_I 7 = .ok (.if_icmp .ge 13, 3) := by decide +kernel
theorem d_Ar_fill_I_10 : decode b_Ar_fill_I 10 = .ok (.aload_n 0, 1) := by decide +kernel
theorem d_Ar_fill_I_11 : decode b_Ar_fill_I 11 = .ok (.iload_n 2, 1) := by decide +kernel
theorem d_Ar_fill_I_12 : decode b_Ar_fill_I 12 = .ok (.iload_n 1, 1) := by decide +kernel
theorem d_Ar_fill_I_13 : decode b_Ar_fill_I 13 = .ok (.iastore, 1) := by decide +kernel
theorem d_Ar_fill_I_14 : decode b_Ar_fill_I 14 = .ok (.iinc 2 1, 3) := by decide +kernel
theorem d_Ar_fill_I_17 : decode b_Ar_fill_I 17 = .ok (.goto (-12), 3) := by decide +kernel
theorem d_Ar_fill_I_20 : decode b_Ar_fill_I 20 = .ok (.return_, 1) := by decide +kernel
def f_Ar_fill_I_l5 (x1 : Int32) (x3 : Int32) (n0 : Nat) (vv : (Int32 × (Nat → Int32))) : Option ((Int32 × (Nat → Int32)) ⊕ (Int32 × (Nat → Int32))) :=
  if x3 ≤ vv.1 then some (.inr (vv.1, vv.2)) else (si n0 vv.2 vv.1 x1).bind fun w13 => some (.inl ((vv.1 + 1), w13))
def f_Ar_fill_I (fu : Nat) (x1 : Int32) (n0 : Nat) (q0 : (Nat → Int32)) : Option ((Nat → Int32)) :=
  (iter (f_Ar_fill_I_l5 x1 (Int32.ofNat n0) n0) fu ((0 : Int32), q0)).bind fun r5 => some r5.2
set_option maxHeartbeats 4000000 in
set_option maxRecDepth 100000 in
theorem T_Ar_fill_I_l5 {p : Program} {l : Launch} {e : Env} {s : State} {m : MethodId} {args : Array Value} {below : List Frame} {meth : Method} {c : Code} {Q : State → Prop} {D : va_G} {cI cJ cZ cN : ClassId} {A : Nat → Prop} (C : Cx p s m args c b_Ar_fill_I 4 "java/util/Arrays" D cI cJ cZ cN) (hA : ∀ q, s.heap.size ≤ q → A q) {ra0 : Nat} {n0 : Nat} {x1 x2 x3 : Int32} {q0 : (Nat → Int32)} {ls : Array Slot} {H : Heap} {locs : List Loc} (hP : va_P D classes [(ra0, .inl (cI, n0, .inl q0))] H) (hD : va_D A [(ra0, .inl (cI, n0, .inl q0))]) (hS : va_S A s.heap H locs) (hl : lv_has ls 4 [(0, .ref ra0), (1, .int x1), (2, .int x2), (3, .int x3)]) {q : (Int32 × (Nat → Int32)) ⊕ (Int32 × (Nat → Int32))} (hf : f_Ar_fill_I_l5 x1 x3 n0 (x2, q0) = some q) (Kc : ∀ v : (Int32 × (Nat → Int32)), q = .inl v → ∀ {ls : Array Slot} {H : Heap} {locs : List Loc}, va_P D classes [(ra0, .inl (cI, n0, .inl v.2))] H → va_D A [(ra0, .inl (cI, n0, .inl v.2))] → va_S A s.heap H locs → lv_has ls 4 [(0, .ref ra0), (1, .int x1), (2, .int v.1), (3, .int x3)] → W p l e rm_Ar_fill_I s m args below meth c H locs 0 0 Q (F0 m 5 ls [])) (Ke : ∀ v : (Int32 × (Nat → Int32)), q = .inr v → ∀ {ls : Array Slot} {H : Heap} {locs : List Loc}, va_P D classes [(ra0, .inl (cI, n0, .inl v.2))] H → va_D A [(ra0, .inl (cI, n0, .inl v.2))] → va_S A s.heap H locs → lv_has ls 4 [] → W p l e rm_Ar_fill_I s m args below meth c H locs 0 0 Q (F0 m 20 ls [])) : W p l e rm_Ar_fill_I s m args below meth c H locs 0 0 Q (F0 m 5 ls []) := by
  obtain ⟨hx, hb, hml, hown, hts, hK, hN⟩ := id C
  have hf : (if x3 ≤ x2 then some (.inr (x2, q0)) else (si n0 q0 x2 x1).bind fun w13 => some (.inl ((x2 + 1), w13)) : Option ((Int32 × (Nat → Int32)) ⊕ (Int32 × (Nat → Int32)))) = some q := hf
  refine lv_iload_n hx hb d_Ar_fill_I_5 rfl (lv_at hl 2 rfl) ?_
  refine lv_iload_n hx hb d_Ar_fill_I_6 rfl (lv_at hl 3 rfl) ?_
  refine lv_icmp_ge (tgt := 20) hx hb d_Ar_fill_I_7 (by decide) (fun hc0 => ?_) (fun hc0 => ?_)
  · have hf := if_t hc0 hf
    cases hf
    exact Ke _ rfl hP hD hS (lv_sub hl [] rfl)
  · have hf := if_f hc0 hf
    refine lv_aload_n hx hb d_Ar_fill_I_10 rfl (lv_at hl 0 rfl) ?_
    refine lv_iload_n hx hb d_Ar_fill_I_11 rfl (lv_at hl 2 rfl) ?_
    refine lv_iload_n hx hb d_Ar_fill_I_12 rfl (lv_at hl 1 rfl) ?_
    obtain ⟨w13, hw13, hf⟩ := ob hf
    refine sa_i hx hb hK hP hD hS 0 0 rfl rfl hw13 d_Ar_fill_I_13 (fun H locs hP hD hS => ?_)
    have hP : va_P D classes [(ra0, .inl (cI, n0, .inl w13))] _ := hP
    have hD : va_D A [(ra0, .inl (cI, n0, .inl w13))] := hD
    refine lv_iinc (k := 2) (v := (x2 + 1)) (lv' := [(2, .int (x2 + 1)), (0, .ref ra0), (1, .int x1), (3, .int x3)]) hx hb d_Ar_fill_I_14 hl rfl (ii_1 _) (by decide) rfl (fun ls hl => ?_)
    refine lv_goto (tgt := 5) hx hb d_Ar_fill_I_17 (by decide) ?_
    cases hf
    exact Kc _ rfl hP hD hS (lv_sub hl [1, 2, 0, 3] rfl)
set_option maxHeartbeats 4000000 in
set_option maxRecDepth 100000 in
theorem L_Ar_fill_I_5 {p : Program} {l : Launch} {e : Env} {s : State} {m : MethodId} {args : Array Value} {below : List Frame} {meth : Method} {c : Code} {Q : State → Prop} {D : va_G} {cI cJ cZ cN : ClassId} {A : Nat → Prop} (C : Cx p s m args c b_Ar_fill_I 4 "java/util/Arrays" D cI cJ cZ cN) (hA : ∀ q, s.heap.size ≤ q → A q) {ra0 : Nat} {n0 : Nat} {x1 x3 : Int32} : ∀ (n : Nat) (vv : (Int32 × (Nat → Int32))) {ls : Array Slot} {H : Heap} {locs : List Loc}, va_P D classes [(ra0, .inl (cI, n0, .inl vv.2))] H → va_D A [(ra0, .inl (cI, n0, .inl vv.2))] → va_S A s.heap H locs → lv_has ls 4 [(0, .ref ra0), (1, .int x1), (2, .int vv.1), (3, .int x3)] → ∀ {r : (Int32 × (Nat → Int32))}, iter (f_Ar_fill_I_l5 x1 x3 n0) n vv = some r → (∀ {ls : Array Slot} {H : Heap} {locs : List Loc}, va_P D classes [(ra0, .inl (cI, n0, .inl r.2))] H → va_D A [(ra0, .inl (cI, n0, .inl r.2))] → va_S A s.heap H locs → lv_has ls 4 [] → W p l e rm_Ar_fill_I s m args below meth c H locs 0 0 Q (F0 m 20 ls [])) → W p l e rm_Ar_fill_I s m args below meth c H locs 0 0 Q (F0 m 5 ls []) := by
  intro n
  induction n with
  | zero => intro vv ls H locs hP hD hS hl r hf K; cases hf
  | succ n ih =>
    intro vv ls H locs hP hD hS hl r hf K
    obtain ⟨q, h1, h2⟩ := it_s hf
    refine T_Ar_fill_I_l5 C hA hP hD hS hl (q := q) h1 (fun v e => ?_) (fun v e => ?_)
    · subst e
      intro ls H locs hP hD hS hl; exact ih v hP hD hS hl h2 K
    · subst e
      cases h2
      intro ls H locs hP hD hS hl; exact K hP hD hS hl
set_option maxHeartbeats 4000000 in
set_option maxRecDepth 100000 in
theorem T_Ar_fill_I_e {p : Program} {l : Launch} {e : Env} {s : State} {m : MethodId} {args : Array Value} {below : List Frame} {meth : Method} {c : Code} {Q : State → Prop} {D : va_G} {cI cJ cZ cN : ClassId} {A : Nat → Prop} (C : Cx p s m args c b_Ar_fill_I 4 "java/util/Arrays" D cI cJ cZ cN) (hA : ∀ q, s.heap.size ≤ q → A q) {ra0 : Nat} {n0 : Nat} {fu : Nat} {x1 : Int32} {q0 : (Nat → Int32)} {ls : Array Slot} {H : Heap} {locs : List Loc} (hP : va_P D classes [(ra0, .inl (cI, n0, .inl q0))] H) (hD : va_D A [(ra0, .inl (cI, n0, .inl q0))]) (hS : va_S A s.heap H locs) (hl : lv_has ls 4 [(0, .ref ra0), (1, .int x1)]) {r : (Nat → Int32)} (hf : f_Ar_fill_I fu x1 n0 q0 = some r) (K : ∀ {pc : Nat} {ls : Array Slot} {H : Heap} {locs : List Loc}, decode b_Ar_fill_I pc = .ok (.return_, 1) → va_P D classes [(ra0, .inl (cI, n0, .inl r))] H → va_D A [(ra0, .inl (cI, n0, .inl r))] → va_S A s.heap H locs → W p l e rm_Ar_fill_I s m args below meth c H locs 0 0 Q (F0 m pc ls [])) : W p l e rm_Ar_fill_I s m args below meth c H locs 0 0 Q (F0 m 0 ls []) := by
  obtain ⟨hx, hb, hml, hown, hts, hK, hN⟩ := id C
  have hf : ((iter (f_Ar_fill_I_l5 x1 (Int32.ofNat n0) n0) fu ((0 : Int32), q0)).bind fun r5 => some r5.2 : Option ((Nat → Int32))) = some r := hf
  refine lv_iconst (v := 0) hx hb d_Ar_fill_I_0 (by decide) ?_
  refine lv_istore_n (lv' := [(2, .int 0), (0, .ref ra0), (1, .int x1)]) hx hb d_Ar_fill_I_1 rfl hl (by decide) rfl (fun ls hl => ?_)
  refine lv_aload_n hx hb d_Ar_fill_I_2 rfl (lv_at hl 1 rfl) ?_
  refine va_alen (v := (Int32.ofNat n0)) hx hb hK hP 0 0 rfl rfl (by first | rfl | decide) d_Ar_fill_I_3 ?_
  refine lv_istore_n (lv' := [(3, .int (Int32.ofNat n0)), (2, .int 0), (0, .ref ra0), (1, .int x1)]) hx hb d_Ar_fill_I_4 rfl hl (by decide) rfl (fun ls hl => ?_)
  obtain ⟨r5, h5, hf⟩ := ob hf
  refine L_Ar_fill_I_5 C hA fu _ hP hD hS (lv_sub hl [2, 3, 1, 0] rfl) h5 (fun {ls : Array Slot} {H : Heap} {locs : List Loc} hP hD hS hl => ?_)
  have hl : lv_has _ 4 [] := hl
  cases hf
  exact K d_Ar_fill_I_20 hP hD hS
set_option maxHeartbeats 4000000 in
set_option maxRecDepth 100000 in
theorem c_Ar_fill_I {l : Launch} {D : va_G} {cI cJ cZ cN : ClassId} {ra0 : Nat} {n0 : Nat} {fu : Nat} {x1 : Int32} {q0 : (Nat → Int32)} {r : (Nat → Int32)} (hf : f_Ar_fill_I fu x1 n0 q0 = some r) : CW_v l y_Ar_fill_I w_Ar_fill_I rm_Ar_fill_I [.ref ra0, .int x1] D cI cJ cZ cN [(ra0, .inl (cI, n0, .inl q0))] (fun w1 => w1 = [(ra0, .inl (cI, n0, .inl r))]) := by
  intro sz
  refine Met.ofW (cc := b_Ar_fill_I) (maxL := 4) (ret := none) (by decide) rfl ?_
  intro p e s m args below meth c s₁ B hml hv
  obtain ⟨rfl, hsz, hP, ⟨hK, hN⟩, hD0⟩ := hv
  have hx := B.exec
  have hb := B.bytes
  have hr := B.returns
  have hts := fun w h => atoms_spec (ws := w_Ar_fill_I) B.pre w (List.mem_cons_of_mem _ h)
  have hown : s.vm.findClass "java/util/Arrays" = some m.cls := findClass_of_methodNamed B.named
  have hlocks := B.notSynchronized
  subst hsz
  have hD := hD0.self (sz := s.heap.size)
  generalize hAe : va_A [(ra0, .inl (cI, n0, .inl q0))] s.heap.size = A at hD ⊢
  have hA : ∀ q : Nat, s.heap.size ≤ q → A q := fun q h => by rw [← hAe]; exact Or.inr h
  have hS : va_S A s.heap s.heap [] := va_S.rf
  have hl := lv_entry [.ref ra0, .int x1] (n := 4) (Nat.le_of_ble_eq_true rfl)
  rw [lg_entry_eq]
  generalize (lg_sl [.ref ra0, .int x1] ++ List.replicate (4 - (lg_sl [.ref ra0, .int x1]).length) Slot.unset).toArray = ls at hl ⊢
  have hl : lv_has ls 4 [(0, .ref ra0), (1, .int x1)] := hl
  exact T_Ar_fill_I_e ⟨hx, hb, hml, hown, hts, hK, hN⟩ hA hP hD hS hl hf (fun hd hP hD hS => W.vret hx hb hr (fun t ht hW => ⟨⟨_, rfl, rfl, by rw [ht]; exact hP, hD⟩, hS.F ht⟩) hS.2.2 hd)
theorem d_Ar_fill_J_0 : decode b_Ar_fill_J 0 = .ok (.iconst 0, 1) := by decide +kernel
theorem d_Ar_fill_J_1 : decode b_Ar_fill_J 1 = .ok (.istore_n 3, 1) := by decide +kernel
theorem d_Ar_fill_J_2 : decode b_Ar_fill_J 2 = .ok (.aload_n 0, 1) := by decide +kernel
theorem d_Ar_fill_J_3 : decode b_Ar_fill_J 3 = .ok (.arraylength, 1) := by decide +kernel
theorem d_Ar_fill_J_4 : decode b_Ar_fill_J 4 = .ok (.istore 4, 2) := by decide +kernel
theorem d_Ar_fill_J_6 : decode b_Ar_fill_J 6 = .ok (.iload_n 3, 1) := by decide +kernel
theorem d_Ar_fill_J_7 : decode b_Ar_fill_J 7 = .ok (.iload 4, 2) := by decide +kernel
theorem d_Ar_fill_J_9 : decode b_Ar_fill_J 9 = .ok (.if_icmp .ge 13, 3) := by decide +kernel
theorem d_Ar_fill_J_12 : decode b_Ar_fill_J 12 = .ok (.aload_n 0, 1) := by decide +kernel
theorem d_Ar_fill_J_13 : decode b_Ar_fill_J 13 = .ok (.iload_n 3, 1) := by decide +kernel
theorem d_Ar_fill_J_14 : decode b_Ar_fill_J 14 = .ok (.lload_n 1, 1) := by decide +kernel
theorem d_Ar_fill_J_15 : decode b_Ar_fill_J 15 = .ok (.lastore, 1) := by decide +kernel
theorem d_Ar_fill_J_16 : decode b_Ar_fill_J 16 = .ok (.iinc 3 1, 3) := by decide +kernel
theorem d_Ar_fill_J_19 : decode b_Ar_fill_J 19 = .ok (.goto (-13), 3) := by decide +kernel
theorem d_Ar_fill_J_22 : decode b_Ar_fill_J 22 = .ok (.return_, 1) := by decide +kernel
def f_Ar_fill_J_l6 (x1 : Int64) (x4 : Int32) (n0 : Nat) (vv : (Int32 × (Nat → Int64))) : Option ((Int32 × (Nat → Int64)) ⊕ (Int32 × (Nat → Int64))) :=
  if x4 ≤ vv.1 then some (.inr (vv.1, vv.2)) else (sl n0 vv.2 vv.1 x1).bind fun w15 => some (.inl ((vv.1 + 1), w15))
def f_Ar_fill_J (fu : Nat) (x1 : Int64) (n0 : Nat) (q0 : (Nat → Int64)) : Option ((Nat → Int64)) :=
  (iter (f_Ar_fill_J_l6 x1 (Int32.ofNat n0) n0) fu ((0 : Int32), q0)).bind fun r6 => some r6.2
set_option maxHeartbeats 4000000 in
set_option maxRecDepth 100000 in
theorem T_Ar_fill_J_l6 {p : Program} {l : Launch} {e : Env} {s : State} {m : MethodId} {args : Array Value} {below : List Frame} {meth : Method} {c : Code} {Q : State → Prop} {D : va_G} {cI cJ cZ cN : ClassId} {A : Nat → Prop} (C : Cx p s m args c b_Ar_fill_J 5 "java/util/Arrays" D cI cJ cZ cN) (hA : ∀ q, s.heap.size ≤ q → A q) {ra0 : Nat} {n0 : Nat} {x1 : Int64} {x3 x4 : Int32} {q0 : (Nat → Int64)} {ls : Array Slot} {H : Heap} {locs : List Loc} (hP : va_P D classes [(ra0, .inl (cJ, n0, .inr (.inl q0)))] H) (hD : va_D A [(ra0, .inl (cJ, n0, .inr (.inl q0)))]) (hS : va_S A s.heap H locs) (hl : lv_has ls 5 [(0, .ref ra0), (1, .long x1), (3, .int x3), (4, .int x4)]) {q : (Int32 × (Nat → Int64)) ⊕ (Int32 × (Nat → Int64))} (hf : f_Ar_fill_J_l6 x1 x4 n0 (x3, q0) = some q) (Kc : ∀ v : (Int32 × (Nat → Int64)), q = .inl v → ∀ {ls : Array Slot} {H : Heap} {locs : List Loc}, va_P D classes [(ra0, .inl (cJ, n0, .inr (.inl v.2)))] H → va_D A [(ra0, .inl (cJ, n0, .inr (.inl v.2)))] → va_S A s.heap H locs → lv_has ls 5 [(0, .ref ra0), (1, .long x1), (3, .int v.1), (4, .int x4)] → W p l e rm_Ar_fill_J s m args below meth c H locs 0 0 Q (F0 m 6 ls [])) (Ke : ∀ v : (Int32 × (Nat → Int64)), q = .inr v → ∀ {ls : Array Slot} {H : Heap} {locs : List Loc}, va_P D classes [(ra0, .inl (cJ, n0, .inr (.inl v.2)))] H → va_D A [(ra0, .inl (cJ, n0, .inr (.inl v.2)))] → va_S A s.heap H locs → lv_has ls 5 [] → W p l e rm_Ar_fill_J s m args below meth c H locs 0 0 Q (F0 m 22 ls [])) : W p l e rm_Ar_fill_J s m args below meth c H locs 0 0 Q (F0 m 6 ls []) := by
  obtain ⟨hx, hb, hml, hown, hts, hK, hN⟩ := id C
  have hf : (if x4 ≤ x3 then some (.inr (x3, q0)) else (sl n0 q0 x3 x1).bind fun w15 => some (.inl ((x3 + 1), w15)) : Option ((Int32 × (Nat → Int64)) ⊕ (Int32 × (Nat → Int64)))) = some q := hf
  refine lv_iload_n hx hb d_Ar_fill_J_6 rfl (lv_at hl 2 rfl) ?_
  refine lv_iload hx hb d_Ar_fill_J_7 (lv_at hl 3 rfl) ?_
  refine lv_icmp_ge (tgt := 22) hx hb d_Ar_fill_J_9 (by decide) (fun hc0 => ?_) (fun hc0 => ?_)
  · have hf := if_t hc0 hf
    cases hf
    exact Ke _ rfl hP hD hS (lv_sub hl [] rfl)
  · have hf := if_f hc0 hf
    refine lv_aload_n hx hb d_Ar_fill_J_12 rfl (lv_at hl 0 rfl) ?_
    refine lv_iload_n hx hb d_Ar_fill_J_13 rfl (lv_at hl 2 rfl) ?_
    refine lv_lload_n hx hb d_Ar_fill_J_14 rfl (lv_at hl 1 rfl) ?_
    obtain ⟨w15, hw15, hf⟩ := ob hf
    refine sa_l hx hb hK hP hD hS 0 1 rfl rfl hw15 d_Ar_fill_J_15 (fun H locs hP hD hS => ?_)
    have hP : va_P D classes [(ra0, .inl (cJ, n0, .inr (.inl w15)))] _ := hP
    have hD : va_D A [(ra0, .inl (cJ, n0, .inr (.inl w15)))] := hD
    refine lv_iinc (k := 2) (v := (x3 + 1)) (lv' := [(3, .int (x3 + 1)), (0, .ref ra0), (1, .long x1), (4, .int x4)]) hx hb d_Ar_fill_J_16 hl rfl (ii_1 _) (by decide) rfl (fun ls hl => ?_)
    refine lv_goto (tgt := 6) hx hb d_Ar_fill_J_19 (by decide) ?_
    cases hf
    exact Kc _ rfl hP hD hS (lv_sub hl [1, 2, 0, 3] rfl)
set_option maxHeartbeats 4000000 in
set_option maxRecDepth 100000 in
theorem L_Ar_fill_J_6 {p : Program} {l : Launch} {e : Env} {s : State} {m : MethodId} {args : Array Value} {below : List Frame} {meth : Method} {c : Code} {Q : State → Prop} {D : va_G} {cI cJ cZ cN : ClassId} {A : Nat → Prop} (C : Cx p s m args c b_Ar_fill_J 5 "java/util/Arrays" D cI cJ cZ cN) (hA : ∀ q, s.heap.size ≤ q → A q) {ra0 : Nat} {n0 : Nat} {x1 : Int64} {x4 : Int32} : ∀ (n : Nat) (vv : (Int32 × (Nat → Int64))) {ls : Array Slot} {H : Heap} {locs : List Loc}, va_P D classes [(ra0, .inl (cJ, n0, .inr (.inl vv.2)))] H → va_D A [(ra0, .inl (cJ, n0, .inr (.inl vv.2)))] → va_S A s.heap H locs → lv_has ls 5 [(0, .ref ra0), (1, .long x1), (3, .int vv.1), (4, .int x4)] → ∀ {r : (Int32 × (Nat → Int64))}, iter (f_Ar_fill_J_l6 x1 x4 n0) n vv = some r → (∀ {ls : Array Slot} {H : Heap} {locs : List Loc}, va_P D classes [(ra0, .inl (cJ, n0, .inr (.inl r.2)))] H → va_D A [(ra0, .inl (cJ, n0, .inr (.inl r.2)))] → va_S A s.heap H locs → lv_has ls 5 [] → W p l e rm_Ar_fill_J s m args below meth c H locs 0 0 Q (F0 m 22 ls [])) → W p l e rm_Ar_fill_J s m args below meth c H locs 0 0 Q (F0 m 6 ls []) := by
  intro n
  induction n with
  | zero => intro vv ls H locs hP hD hS hl r hf K; cases hf
  | succ n ih =>
    intro vv ls H locs hP hD hS hl r hf K
    obtain ⟨q, h1, h2⟩ := it_s hf
    refine T_Ar_fill_J_l6 C hA hP hD hS hl (q := q) h1 (fun v e => ?_) (fun v e => ?_)
    · subst e
      intro ls H locs hP hD hS hl; exact ih v hP hD hS hl h2 K
    · subst e
      cases h2
      intro ls H locs hP hD hS hl; exact K hP hD hS hl
set_option maxHeartbeats 4000000 in
set_option maxRecDepth 100000 in
theorem T_Ar_fill_J_e {p : Program} {l : Launch} {e : Env} {s : State} {m : MethodId} {args : Array Value} {below : List Frame} {meth : Method} {c : Code} {Q : State → Prop} {D : va_G} {cI cJ cZ cN : ClassId} {A : Nat → Prop} (C : Cx p s m args c b_Ar_fill_J 5 "java/util/Arrays" D cI cJ cZ cN) (hA : ∀ q, s.heap.size ≤ q → A q) {ra0 : Nat} {n0 : Nat} {fu : Nat} {x1 : Int64} {q0 : (Nat → Int64)} {ls : Array Slot} {H : Heap} {locs : List Loc} (hP : va_P D classes [(ra0, .inl (cJ, n0, .inr (.inl q0)))] H) (hD : va_D A [(ra0, .inl (cJ, n0, .inr (.inl q0)))]) (hS : va_S A s.heap H locs) (hl : lv_has ls 5 [(0, .ref ra0), (1, .long x1)]) {r : (Nat → Int64)} (hf : f_Ar_fill_J fu x1 n0 q0 = some r) (K : ∀ {pc : Nat} {ls : Array Slot} {H : Heap} {locs : List Loc}, decode b_Ar_fill_J pc = .ok (.return_, 1) → va_P D classes [(ra0, .inl (cJ, n0, .inr (.inl r)))] H → va_D A [(ra0, .inl (cJ, n0, .inr (.inl r)))] → va_S A s.heap H locs → W p l e rm_Ar_fill_J s m args below meth c H locs 0 0 Q (F0 m pc ls [])) : W p l e rm_Ar_fill_J s m args below meth c H locs 0 0 Q (F0 m 0 ls []) := by
  obtain ⟨hx, hb, hml, hown, hts, hK, hN⟩ := id C
  have hf : ((iter (f_Ar_fill_J_l6 x1 (Int32.ofNat n0) n0) fu ((0 : Int32), q0)).bind fun r6 => some r6.2 : Option ((Nat → Int64))) = some r := hf
  refine lv_iconst (v := 0) hx hb d_Ar_fill_J_0 (by decide) ?_
  refine lv_istore_n (lv' := [(3, .int 0), (0, .ref ra0), (1, .long x1)]) hx hb d_Ar_fill_J_1 rfl hl (by decide) rfl (fun ls hl => ?_)
  refine lv_aload_n hx hb d_Ar_fill_J_2 rfl (lv_at hl 1 rfl) ?_
  refine va_alen (v := (Int32.ofNat n0)) hx hb hK hP 0 1 rfl rfl (by first | rfl | decide) d_Ar_fill_J_3 ?_
  refine lv_istore (lv' := [(4, .int (Int32.ofNat n0)), (3, .int 0), (0, .ref ra0), (1, .long x1)]) hx hb d_Ar_fill_J_4 hl (by decide) rfl (fun ls hl => ?_)
  obtain ⟨r6, h6, hf⟩ := ob hf
  refine L_Ar_fill_J_6 C hA fu _ hP hD hS (lv_sub hl [2, 3, 1, 0] rfl) h6 (fun {ls : Array Slot} {H : Heap} {locs : List Loc} hP hD hS hl => ?_)
  have hl : lv_has _ 5 [] := hl
  cases hf
  exact K d_Ar_fill_J_22 hP hD hS
set_option maxHeartbeats 4000000 in
set_option maxRecDepth 100000 in
theorem c_Ar_fill_J {l : Launch} {D : va_G} {cI cJ cZ cN : ClassId} {ra0 : Nat} {n0 : Nat} {fu : Nat} {x1 : Int64} {q0 : (Nat → Int64)} {r : (Nat → Int64)} (hf : f_Ar_fill_J fu x1 n0 q0 = some r) : CW_v l y_Ar_fill_J w_Ar_fill_J rm_Ar_fill_J [.ref ra0, .long x1] D cI cJ cZ cN [(ra0, .inl (cJ, n0, .inr (.inl q0)))] (fun w1 => w1 = [(ra0, .inl (cJ, n0, .inr (.inl r)))]) := by
  intro sz
  refine Met.ofW (cc := b_Ar_fill_J) (maxL := 5) (ret := none) (by decide) rfl ?_
  intro p e s m args below meth c s₁ B hml hv
  obtain ⟨rfl, hsz, hP, ⟨hK, hN⟩, hD0⟩ := hv
  have hx := B.exec
  have hb := B.bytes
  have hr := B.returns
  have hts := fun w h => atoms_spec (ws := w_Ar_fill_J) B.pre w (List.mem_cons_of_mem _ h)
  have hown : s.vm.findClass "java/util/Arrays" = some m.cls := findClass_of_methodNamed B.named
  have hlocks := B.notSynchronized
  subst hsz
  have hD := hD0.self (sz := s.heap.size)
  generalize hAe : va_A [(ra0, .inl (cJ, n0, .inr (.inl q0)))] s.heap.size = A at hD ⊢
  have hA : ∀ q : Nat, s.heap.size ≤ q → A q := fun q h => by rw [← hAe]; exact Or.inr h
  have hS : va_S A s.heap s.heap [] := va_S.rf
  have hl := lv_entry [.ref ra0, .long x1] (n := 5) (Nat.le_of_ble_eq_true rfl)
  rw [lg_entry_eq]
  generalize (lg_sl [.ref ra0, .long x1] ++ List.replicate (5 - (lg_sl [.ref ra0, .long x1]).length) Slot.unset).toArray = ls at hl ⊢
  have hl : lv_has ls 5 [(0, .ref ra0), (1, .long x1)] := hl
  exact T_Ar_fill_J_e ⟨hx, hb, hml, hown, hts, hK, hN⟩ hA hP hD hS hl hf (fun hd hP hD hS => W.vret hx hb hr (fun t ht hW => ⟨⟨_, rfl, rfl, by rw [ht]; exact hP, hD⟩, hS.F ht⟩) hS.2.2 hd)
