/-! the pure words that the decompiled methods are written in -/
def gi (n : Nat) (f : Nat → Int32) (i : Int32) : Option Int32 := if i < 0 ∨ n ≤ i.toNatClampNeg then none else some (f i.toNatClampNeg)
def gl (n : Nat) (f : Nat → Int64) (i : Int32) : Option Int64 := if i < 0 ∨ n ≤ i.toNatClampNeg then none else some (f i.toNatClampNeg)
def si (n : Nat) (f : Nat → Int32) (i x : Int32) : Option (Nat → Int32) := if i < 0 ∨ n ≤ i.toNatClampNeg then none else some (upd f i.toNatClampNeg x)
def sl (n : Nat) (f : Nat → Int64) (i : Int32) (x : Int64) : Option (Nat → Int64) := if i < 0 ∨ n ≤ i.toNatClampNeg then none else some (vp_updL f i.toNatClampNeg x)
def sz (n : Nat) (f : Nat → Int32) (i x : Int32) : Option (Nat → Int32) := if i < 0 ∨ n ≤ i.toNatClampNeg then none else some (upd f i.toNatClampNeg (vp_nar .boolean x))
def iter {α β : Type} (b : α → Option (α ⊕ β)) : Nat → α → Option β
  | 0, _ => none
  | n + 1, a => (b a).bind fun q => match q with
    | .inl a' => iter b n a'
    | .inr r => some r
def nz3 (a b c : Nat) : Nat → Option Nat := va_up (va_up (va_up (fun _ => none) 0 (some a)) 1 (some b)) 2 (some c)
theorem ob {α β : Type} {x : Option α} {f : α → Option β} {r : β} (h : x.bind f = some r) : ∃ v, x = some v ∧ f v = some r := by
  cases x with
  | none => cases h
  | some v => exact ⟨v, rfl, h⟩
theorem if_t {α : Type} {c : Prop} [Decidable c] {a b : Option α} {r : α} (h : c) (hf : (if c then a else b) = some r) : a = some r := by rw [if_pos h] at hf; exact hf
theorem if_f {α : Type} {c : Prop} [Decidable c] {a b : Option α} {r : α} (h : ¬ c) (hf : (if c then a else b) = some r) : b = some r := by rw [if_neg h] at hf; exact hf
def sm {α β γ : Type} (x : α ⊕ β) (f : α → γ) (g : β → γ) : γ := match x with
  | .inl a => f a
  | .inr b => g b
theorem sm_l {α β γ : Type} {a : α} {f : α → Option γ} {g : β → Option γ} {r : γ} (h : sm (.inl a) f g = some r) : f a = some r := h
theorem sm_r {α β γ : Type} {b : β} {f : α → Option γ} {g : β → Option γ} {r : γ} (h : sm (.inr b) f g = some r) : g b = some r := h
theorem as_n {α : Type} {c : Prop} [Decidable c] {b : Option α} {r : α} (hf : (if c then none else b) = some r) : ¬ c ∧ b = some r := by
  by_cases h : c
  · rw [if_pos h] at hf; cases hf
  · rw [if_neg h] at hf; exact ⟨h, hf⟩
theorem as_y {α : Type} {c : Prop} [Decidable c] {b : Option α} {r : α} (hf : (if c then b else none) = some r) : c ∧ b = some r := by
  by_cases h : c
  · rw [if_pos h] at hf; exact ⟨h, hf⟩
  · rw [if_neg h] at hf; cases hf
theorem cs3 {α : Type} {i : Int32} {a b c : Option α} {r : α} (hf : (if i = 0 then a else if i = 1 then b else if i = 2 then c else none) = some r) : (i = 0 ∧ a = some r) ∨ (i = 1 ∧ b = some r) ∨ (i = 2 ∧ c = some r) := by
  by_cases h0 : i = 0
  · rw [if_pos h0] at hf; exact Or.inl ⟨h0, hf⟩
  · rw [if_neg h0] at hf
    by_cases h1 : i = 1
    · rw [if_pos h1] at hf; exact Or.inr (Or.inl ⟨h1, hf⟩)
    · rw [if_neg h1] at hf
      by_cases h2 : i = 2
      · rw [if_pos h2] at hf; exact Or.inr (Or.inr ⟨h2, hf⟩)
      · rw [if_neg h2] at hf; cases hf
theorem it_s {α β : Type} {b : α → Option (α ⊕ β)} {n : Nat} {a : α} {r : β} (h : iter b (n + 1) a = some r) : ∃ q, b a = some q ∧ (match q with
    | .inl a' => iter b n a'
    | .inr r' => some r') = some r := ob (show ((b a).bind fun q => match q with
    | .inl a' => iter b n a'
    | .inr r => some r) = some r from h)
theorem gi_s {n : Nat} {f : Nat → Int32} {i v : Int32} (h : gi n f i = some v) : vp_in i n ∧ f i.toNatClampNeg = v := by
  obtain ⟨h1, h2⟩ := as_n h
  exact ⟨h1, Option.some.inj h2⟩
theorem gl_s {n : Nat} {f : Nat → Int64} {i : Int32} {v : Int64} (h : gl n f i = some v) : vp_in i n ∧ f i.toNatClampNeg = v := by
  obtain ⟨h1, h2⟩ := as_n h
  exact ⟨h1, Option.some.inj h2⟩
theorem si_s {n : Nat} {f g : Nat → Int32} {i x : Int32} (h : si n f i x = some g) : vp_in i n ∧ upd f i.toNatClampNeg x = g := by
  obtain ⟨h1, h2⟩ := as_n h
  exact ⟨h1, Option.some.inj h2⟩
theorem sl_s {n : Nat} {f g : Nat → Int64} {i : Int32} {x : Int64} (h : sl n f i x = some g) : vp_in i n ∧ vp_updL f i.toNatClampNeg x = g := by
  obtain ⟨h1, h2⟩ := as_n h
  exact ⟨h1, Option.some.inj h2⟩
theorem sz_s {n : Nat} {f g : Nat → Int32} {i x : Int32} (h : sz n f i x = some g) : vp_in i n ∧ upd f i.toNatClampNeg (vp_nar .boolean x) = g := by
  obtain ⟨h1, h2⟩ := as_n h
  exact ⟨h1, Option.some.inj h2⟩
theorem ii_1 (x : Int32) : x + Int32.ofInt 1 = x + 1 := by rw [show Int32.ofInt 1 = 1 from by decide]
theorem ii_5 (x : Int32) : x + Int32.ofInt 5 = x + 5 := by rw [show Int32.ofInt 5 = 5 from by decide]
theorem ii_100 (x : Int32) : x + Int32.ofInt 100 = x + 100 := by rw [show Int32.ofInt 100 = 100 from by decide]
theorem ii_m1 (x : Int32) : x + Int32.ofInt (-1) = x + (-1) := by rw [show Int32.ofInt (-1) = -1 from by decide]
theorem nr_z {x : Int32} (h : x = 0 ∨ x = 1) : narrow .boolean (.int x) = .int x := by rcases h with rfl | rfl <;> rfl
theorem ft_z {x : Int32} (h : x = 0 ∨ x = 1) : fits .boolean (.int x) = true := by rcases h with rfl | rfl <;> rfl
theorem vi_0 : vp_in 0 3 := by unfold vp_in; decide
theorem vi_1 : vp_in 1 3 := by unfold vp_in; decide
theorem vi_2 : vp_in 2 3 := by unfold vp_in; decide
theorem va_P0 {D : va_G} {cl : List vw_C} {H : Heap} : va_P D cl [] H := fun k q h => by cases h
section RW
variable {p : Program} {l : Launch} {e : Env} {R : Room} {s : State} {m : MethodId} {args : Array Value} {below : List Frame} {meth : Method} {c : Code} {H : Heap} {locs : List Loc} {cells slots : Nat} {Q : State → Prop}
variable {cc : ByteArray} {pc : Nat} {ls : Array Slot} {rest st0 : List Value} {D : va_G} {cl : List vw_C} {A : Nat → Prop} {a : Nat} {tys : List (ClassId × FieldType)} {ws : va_W} {H0 : Heap}
theorem ga_i (hexec : p.tables.exec = Jvm.exec) (hb : c.code = cc) (hK : va_K D cl tys s) (hP : va_P D cl ws H) (q0 t0 : Nat) {cA : ClassId} {n : Nat} {f : Nat → Int32} (ha : ws[q0]? = some (a, .inl (cA, n, .inl f))) (ht : tys[t0]? = some (cA, .int)) {i v : Int32} (hv : gi n f i = some v) (hdg : decode cc pc = .ok (.iaload, 1))
    (kk : W p l e R s m args below meth c H locs cells slots Q (F0 m (pc + 1) ls (.int v :: rest))) : W p l e R s m args below meth c H locs cells slots Q (F0 m pc ls (.int i :: .ref a :: rest)) := by
  obtain ⟨h1, h2⟩ := gi_s hv
  refine va_iald hexec hb hK hP q0 t0 ha ht h1 hdg ?_
  rw [h2]; exact kk
theorem ga_z (hexec : p.tables.exec = Jvm.exec) (hb : c.code = cc) (hK : va_K D cl tys s) (hP : va_P D cl ws H) (q0 t0 : Nat) {cA : ClassId} {n : Nat} {f : Nat → Int32} (ha : ws[q0]? = some (a, .inl (cA, n, .inl f))) (ht : tys[t0]? = some (cA, .boolean)) {i v : Int32} (hv : gi n f i = some v) (hdg : decode cc pc = .ok (.baload, 1))
    (kk : W p l e R s m args below meth c H locs cells slots Q (F0 m (pc + 1) ls (.int v :: rest))) : W p l e R s m args below meth c H locs cells slots Q (F0 m pc ls (.int i :: .ref a :: rest)) := by
  obtain ⟨h1, h2⟩ := gi_s hv
  refine va_zald hexec hb hK hP q0 t0 ha ht h1 hdg ?_
  rw [h2]; exact kk
theorem ga_l (hexec : p.tables.exec = Jvm.exec) (hb : c.code = cc) (hK : va_K D cl tys s) (hP : va_P D cl ws H) (q0 t0 : Nat) {cA : ClassId} {n : Nat} {f : Nat → Int64} (ha : ws[q0]? = some (a, .inl (cA, n, .inr (.inl f)))) (ht : tys[t0]? = some (cA, .long)) {i : Int32} {v : Int64} (hv : gl n f i = some v) (hdg : decode cc pc = .ok (.laload, 1))
    (kk : W p l e R s m args below meth c H locs cells slots Q (F0 m (pc + 1) ls (.long v :: rest))) : W p l e R s m args below meth c H locs cells slots Q (F0 m pc ls (.int i :: .ref a :: rest)) := by
  obtain ⟨h1, h2⟩ := gl_s hv
  refine va_lald hexec hb hK hP q0 t0 ha ht h1 hdg ?_
  rw [h2]; exact kk
theorem sa_i (hexec : p.tables.exec = Jvm.exec) (hb : c.code = cc) (hK : va_K D cl tys s) (hP : va_P D cl ws H) (hD : va_D A ws) (hS : va_S A H0 H locs) (q0 t0 : Nat) {cA : ClassId} {n : Nat} {f g : Nat → Int32} (ha : ws[q0]? = some (a, .inl (cA, n, .inl f))) (ht : tys[t0]? = some (cA, .int)) {i x : Int32} (hv : si n f i x = some g) (hdg : decode cc pc = .ok (.iastore, 1))
    (kk : ∀ (H1 : Heap) (locs1 : List Loc), va_P D cl (ws.set q0 (a, .inl (cA, n, .inl g))) H1 → va_D A (ws.set q0 (a, .inl (cA, n, .inl g))) → va_S A H0 H1 locs1 → W p l e R s m args below meth c H1 locs1 cells slots Q (F0 m (pc + 1) ls rest)) : W p l e R s m args below meth c H locs cells slots Q (F0 m pc ls (.int x :: .int i :: .ref a :: rest)) := by
  obtain ⟨h1, h2⟩ := si_s hv
  refine va_iast hexec hb hK hP hD hS q0 t0 ha ht h1 hdg ?_
  rw [h2]; exact kk
theorem sa_z (hexec : p.tables.exec = Jvm.exec) (hb : c.code = cc) (hK : va_K D cl tys s) (hP : va_P D cl ws H) (hD : va_D A ws) (hS : va_S A H0 H locs) (q0 t0 : Nat) {cA : ClassId} {n : Nat} {f g : Nat → Int32} (ha : ws[q0]? = some (a, .inl (cA, n, .inl f))) (ht : tys[t0]? = some (cA, .boolean)) {i x : Int32} (hv : sz n f i x = some g) (hdg : decode cc pc = .ok (.bastore, 1))
    (kk : ∀ (H1 : Heap) (locs1 : List Loc), va_P D cl (ws.set q0 (a, .inl (cA, n, .inl g))) H1 → va_D A (ws.set q0 (a, .inl (cA, n, .inl g))) → va_S A H0 H1 locs1 → W p l e R s m args below meth c H1 locs1 cells slots Q (F0 m (pc + 1) ls rest)) : W p l e R s m args below meth c H locs cells slots Q (F0 m pc ls (.int x :: .int i :: .ref a :: rest)) := by
  obtain ⟨h1, h2⟩ := sz_s hv
  refine va_zast hexec hb hK hP hD hS q0 t0 ha ht h1 hdg ?_
  rw [h2]; exact kk
theorem sa_l (hexec : p.tables.exec = Jvm.exec) (hb : c.code = cc) (hK : va_K D cl tys s) (hP : va_P D cl ws H) (hD : va_D A ws) (hS : va_S A H0 H locs) (q0 t0 : Nat) {cA : ClassId} {n : Nat} {f g : Nat → Int64} (ha : ws[q0]? = some (a, .inl (cA, n, .inr (.inl f)))) (ht : tys[t0]? = some (cA, .long)) {i : Int32} {x : Int64} (hv : sl n f i x = some g) (hdg : decode cc pc = .ok (.lastore, 1))
    (kk : ∀ (H1 : Heap) (locs1 : List Loc), va_P D cl (ws.set q0 (a, .inl (cA, n, .inr (.inl g)))) H1 → va_D A (ws.set q0 (a, .inl (cA, n, .inr (.inl g)))) → va_S A H0 H1 locs1 → W p l e R s m args below meth c H1 locs1 cells slots Q (F0 m (pc + 1) ls rest)) : W p l e R s m args below meth c H locs cells slots Q (F0 m pc ls (.long x :: .int i :: .ref a :: rest)) := by
  obtain ⟨h1, h2⟩ := sl_s hv
  refine va_last hexec hb hK hP hD hS q0 t0 ha ht h1 hdg ?_
  rw [h2]; exact kk
theorem lc_0 (x y : Int64) : lg_cmp x y = 0 ↔ x = y := by
  unfold lg_cmp
  by_cases h1 : x > y
  · rw [if_pos h1]
    constructor
    · intro h; exact absurd h (by decide)
    · intro h; subst h; exact absurd h1 (by simp [Int64.lt_irrefl])
  · rw [if_neg h1]
    by_cases h2 : x = y
    · rw [if_pos h2]; exact ⟨fun _ => h2, fun _ => rfl⟩
    · rw [if_neg h2]; exact ⟨fun h => absurd h (by decide), fun h => absurd h h2⟩
theorem lc_ifeq (hexec : p.tables.exec = Jvm.exec) (hb : c.code = cc) {x y : Int64} {off : Int} {tgt : Nat} (hdg : decode cc pc = .ok (.lcmp, 1)) (hd2 : decode cc (pc + 1) = .ok (.ifCond .eq off, 3)) (ht : ((pc + 1 : Nat) : Int) + off = (tgt : Int))
    (kt : x = y → W p l e R s m args below meth c H locs cells slots Q (F0 m tgt ls rest)) (kf : ¬ x = y → W p l e R s m args below meth c H locs cells slots Q (F0 m (pc + 1 + 3) ls rest)) : W p l e R s m args below meth c H locs cells slots Q (F0 m pc ls (.long y :: .long x :: rest)) := by
  refine W.lcmp hexec hb hdg ?_
  exact lv_if_eq hexec hb hd2 ht (fun h => kt ((lc_0 x y).mp h)) (fun h => kf (fun h2 => h ((lc_0 x y).mpr h2)))
theorem lc_ifne (hexec : p.tables.exec = Jvm.exec) (hb : c.code = cc) {x y : Int64} {off : Int} {tgt : Nat} (hdg : decode cc pc = .ok (.lcmp, 1)) (hd2 : decode cc (pc + 1) = .ok (.ifCond .ne off, 3)) (ht : ((pc + 1 : Nat) : Int) + off = (tgt : Int))
    (kt : x = y → W p l e R s m args below meth c H locs cells slots Q (F0 m (pc + 1 + 3) ls rest)) (kf : ¬ x = y → W p l e R s m args below meth c H locs cells slots Q (F0 m tgt ls rest)) : W p l e R s m args below meth c H locs cells slots Q (F0 m pc ls (.long y :: .long x :: rest)) := by
  refine W.lcmp hexec hb hdg ?_
  exact lv_if_ne hexec hb hd2 ht (fun h => kf (fun h2 => h ((lc_0 x y).mpr h2))) (fun h => kt ((lc_0 x y).mp h))
theorem rc_i {r0 : Int32} {a : Array Value} (hr : va_Run p l e R s m args below meth c H locs cells slots 0 0 (F0 m pc ls st0) rest (vp_Si (fun x => x = r0) a) (fun _ => False))
    (kk : W p l e R s m args below meth c H locs cells slots Q (F0 m (pc + 3) ls (.int r0 :: rest))) : W p l e R s m args below meth c H locs cells slots Q (F0 m pc ls st0) := by
  intro T hT X
  obtain ⟨v, st₀, t, T', L, h0, X', hL, e1, -, ⟨r, hv, hp, hh⟩, st⟩ := hr T hT X
  cases hv
  subst hp
  obtain ⟨t2, a1, b1⟩ := kk T' (by rw [e1, hh, h0]) (Stand.forget X' (fun q h => (hL q h).elim))
  exact ⟨t2, st t2 a1, b1⟩
theorem rc_v {a : Array Value} (hr : va_Run p l e R s m args below meth c H locs cells slots 0 0 (F0 m pc ls st0) rest (va_Sv (fun _ => True) a) (fun _ => False))
    (kk : W p l e R s m args below meth c H locs cells slots Q (F0 m (pc + 3) ls rest)) : W p l e R s m args below meth c H locs cells slots Q (F0 m pc ls st0) := by
  intro T hT X
  obtain ⟨v, st₀, t, T', L, h0, X', hL, e1, -, ⟨hv, hp, hh⟩, st⟩ := hr T hT X
  cases hv
  obtain ⟨t2, a1, b1⟩ := kk T' (by rw [e1, hh, h0]) (Stand.forget X' (fun q h => (hL q h).elim))
  exact ⟨t2, st t2 a1, b1⟩
theorem rc_l {r0 : Int64} {a : Array Value} (hr : va_Run p l e R s m args below meth c H locs cells slots 0 0 (F0 m pc ls st0) rest (vp_Sl (fun x => x = r0) a) (fun _ => False))
    (kk : W p l e R s m args below meth c H locs cells slots Q (F0 m (pc + 3) ls (.long r0 :: rest))) : W p l e R s m args below meth c H locs cells slots Q (F0 m pc ls st0) := by
  intro T hT X
  obtain ⟨v, st₀, t, T', L, h0, X', hL, e1, -, ⟨r, hv, hp, hh⟩, st⟩ := hr T hT X
  cases hv
  subst hp
  obtain ⟨t2, a1, b1⟩ := kk T' (by rw [e1, hh, h0]) (Stand.forget X' (fun q h => (hL q h).elim))
  exact ⟨t2, st t2 a1, b1⟩
end RW
