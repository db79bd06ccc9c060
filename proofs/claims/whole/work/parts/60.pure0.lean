/-! pure reasoning over the decompiled methods: loops, small numbers -/
abbrev mI (k : Nat) : Int32 := Int32.ofNat k
abbrev iI (z : Int) : Int32 := Int32.ofInt z
abbrev jJ (z : Int) : Int64 := Int64.ofInt z
theorem iter_for {α β : Type} {b : α → Option (α ⊕ β)} {N : Nat} (st : Nat → α → Prop) {P : β → Prop} (hs : ∀ k a, k < N → st k a → ∃ a', b a = some (.inl a') ∧ st (k + 1) a') (he : ∀ a, st N a → ∃ r, b a = some (.inr r) ∧ P r) :
    ∀ (fu k : Nat) (a : α), k ≤ N → N - k < fu → st k a → ∃ r, iter b fu a = some r ∧ P r := by
  intro fu
  induction fu with
  | zero => intro k a _ h; omega
  | succ n ih =>
    intro k a hk hn h
    by_cases hkN : k < N
    · obtain ⟨a', h1, h2⟩ := hs k a hkN h
      obtain ⟨r, h3, h4⟩ := ih (k + 1) a' hkN (by omega) h2
      refine ⟨r, ?_, h4⟩
      show ((b a).bind fun q => match q with
        | .inl a' => iter b n a'
        | .inr r => some r) = some r
      rw [h1]; exact h3
    · have e : k = N := by omega
      subst e
      obtain ⟨r, h1, h2⟩ := he a h
      refine ⟨r, ?_, h2⟩
      show ((b a).bind fun q => match q with
        | .inl a' => iter b n a'
        | .inr r => some r) = some r
      rw [h1]; rfl
/-- a loop that may leave early -/
theorem iter_inv {α β : Type} {b : α → Option (α ⊕ β)} (I : α → Prop) (μ : α → Nat) {P : β → Prop} (hs : ∀ a, I a → (∃ a', b a = some (.inl a') ∧ I a' ∧ μ a' < μ a) ∨ (∃ r, b a = some (.inr r) ∧ P r)) :
    ∀ (fu : Nat) (a : α), μ a < fu → I a → ∃ r, iter b fu a = some r ∧ P r := by
  intro fu
  induction fu with
  | zero => intro a h; omega
  | succ n ih =>
    intro a hn h
    rcases hs a h with ⟨a', h1, h2, h3⟩ | ⟨r, h1, h2⟩
    · obtain ⟨r, h4, h5⟩ := ih a' (by omega) h2
      refine ⟨r, ?_, h5⟩
      show ((b a).bind fun q => match q with
        | .inl a' => iter b n a'
        | .inr r => some r) = some r
      rw [h1]; exact h4
    · refine ⟨r, ?_, h2⟩
      show ((b a).bind fun q => match q with
        | .inl a' => iter b n a'
        | .inr r => some r) = some r
      rw [h1]; rfl
/-! numbers -/
theorem mI_add (a b : Nat) : mI a + mI b = mI (a + b) := (Int32.ofNat_add a b).symm
theorem mI_1 (a : Nat) : mI a + 1 = mI (a + 1) := mI_add a 1
theorem mI_mul (a b : Nat) : mI a * mI b = mI (a * b) := (Int32.ofNat_mul a b).symm
theorem mI_sub {a b : Nat} (h : b ≤ a) : mI a - mI b = mI (a - b) := (Int32.ofNat_sub a b h).symm
theorem mI_lt {a b : Nat} (ha : a < 2 ^ 31) (hb : b < 2 ^ 31) : mI a < mI b ↔ a < b := Int32.ofNat_lt_iff_lt ha hb
theorem mI_le {a b : Nat} (ha : a < 2 ^ 31) (hb : b < 2 ^ 31) : mI a ≤ mI b ↔ a ≤ b := Int32.ofNat_le_iff_le ha hb
theorem mI_inj {a b : Nat} (ha : a < 2 ^ 31) (hb : b < 2 ^ 31) : mI a = mI b ↔ a = b := by
  constructor
  · intro h
    have := congrArg Int32.toInt h
    rw [Int32.toInt_ofNat_of_lt ha, Int32.toInt_ofNat_of_lt hb] at this
    omega
  · intro h; rw [h]
theorem mI_iI (a : Nat) : mI a = iI (a : Int) := Int32.ofInt_eq_ofNat.symm
theorem iI_add (a b : Int) : iI a + iI b = iI (a + b) := (Int32.ofInt_add a b).symm
theorem iI_sub (a b : Int) : iI a - iI b = iI (a - b) := (Int32.ofInt_sub a b).symm
theorem iI_mul (a b : Int) : iI a * iI b = iI (a * b) := (Int32.ofInt_mul a b).symm
theorem iI_toInt {a : Int} (h : -2 ^ 31 ≤ a) (h' : a < 2 ^ 31) : (iI a).toInt = a := Int32.toInt_ofInt_of_le h h'
theorem iI_lt {a b : Int} (ha : -2 ^ 31 ≤ a) (ha' : a < 2 ^ 31) (hb : -2 ^ 31 ≤ b) (hb' : b < 2 ^ 31) : iI a < iI b ↔ a < b := by
  rw [Int32.lt_iff_toInt_lt, iI_toInt ha ha', iI_toInt hb hb']
theorem iI_le {a b : Int} (ha : -2 ^ 31 ≤ a) (ha' : a < 2 ^ 31) (hb : -2 ^ 31 ≤ b) (hb' : b < 2 ^ 31) : iI a ≤ iI b ↔ a ≤ b := by
  rw [Int32.le_iff_toInt_le, iI_toInt ha ha', iI_toInt hb hb']
theorem iI_inj {a b : Int} (ha : -2 ^ 31 ≤ a) (ha' : a < 2 ^ 31) (hb : -2 ^ 31 ≤ b) (hb' : b < 2 ^ 31) : iI a = iI b ↔ a = b := by
  rw [← Int32.toInt_inj, iI_toInt ha ha', iI_toInt hb hb']
theorem mI_ne_neg {a : Nat} (ha : a < 2 ^ 31) : ¬ mI a = -1 := by
  intro h
  have := congrArg Int32.toInt h
  rw [Int32.toInt_ofNat_of_lt ha] at this
  have e : (-1 : Int32).toInt = -1 := by decide
  rw [e] at this
  omega
theorem jJ_add (a b : Int) : jJ a + jJ b = jJ (a + b) := (Int64.ofInt_add a b).symm
theorem jJ_toInt {a : Int} (h : -2 ^ 63 ≤ a) (h' : a < 2 ^ 63) : (jJ a).toInt = a := Int64.toInt_ofInt_of_le h h'
theorem jJ_lt {a b : Int} (ha : -2 ^ 63 ≤ a) (ha' : a < 2 ^ 63) (hb : -2 ^ 63 ≤ b) (hb' : b < 2 ^ 63) : jJ a < jJ b ↔ a < b := by
  rw [Int64.lt_iff_toInt_lt, jJ_toInt ha ha', jJ_toInt hb hb']
theorem jJ_inj {a b : Int} (ha : -2 ^ 63 ≤ a) (ha' : a < 2 ^ 63) (hb : -2 ^ 63 ≤ b) (hb' : b < 2 ^ 63) : jJ a = jJ b ↔ a = b := by
  rw [← Int64.toInt_inj, jJ_toInt ha ha', jJ_toInt hb hb']
theorem mI_in {n k : Nat} (h : k < n) (hn : n < 2 ^ 31) : ¬ (mI k < 0 ∨ n ≤ (mI k).toNatClampNeg) := by
  rw [Int32.toNatClampNeg_ofNat_of_lt (by omega)]
  rintro (h1 | h1)
  · have : ¬ mI k < mI 0 := by rw [mI_lt (by omega) (by omega)]; omega
    exact this h1
  · omega
theorem gi_n {n k : Nat} {f : Nat → Int32} (h : k < n) (hn : n < 2 ^ 31) : gi n f (mI k) = some (f k) := by
  unfold gi
  rw [if_neg (mI_in h hn), Int32.toNatClampNeg_ofNat_of_lt (by omega)]
theorem gl_n {n k : Nat} {f : Nat → Int64} (h : k < n) (hn : n < 2 ^ 31) : gl n f (mI k) = some (f k) := by
  unfold gl
  rw [if_neg (mI_in h hn), Int32.toNatClampNeg_ofNat_of_lt (by omega)]
theorem si_n {n k : Nat} {f : Nat → Int32} {x : Int32} (h : k < n) (hn : n < 2 ^ 31) : si n f (mI k) x = some (upd f k x) := by
  unfold si
  rw [if_neg (mI_in h hn), Int32.toNatClampNeg_ofNat_of_lt (by omega)]
theorem sl_n {n k : Nat} {f : Nat → Int64} {x : Int64} (h : k < n) (hn : n < 2 ^ 31) : sl n f (mI k) x = some (vp_updL f k x) := by
  unfold sl
  rw [if_neg (mI_in h hn), Int32.toNatClampNeg_ofNat_of_lt (by omega)]
theorem sz_n {n k : Nat} {f : Nat → Int32} {x : Int32} (h : k < n) (hn : n < 2 ^ 31) : sz n f (mI k) x = some (upd f k (vp_nar .boolean x)) := by
  unfold sz
  rw [if_neg (mI_in h hn), Int32.toNatClampNeg_ofNat_of_lt (by omega)]
theorem sb {α β : Type} {x : α} {f : α → Option β} : (some x).bind f = f x := rfl
theorem upd_at {f : Nat → Int32} {k : Nat} {x : Int32} (j : Nat) : upd f k x j = if j = k then x else f j := by
  unfold upd
  split <;> simp_all
theorem updL_at {f : Nat → Int64} {k : Nat} {x : Int64} (j : Nat) : vp_updL f k x j = if j = k then x else f j := by
  unfold vp_updL
  split <;> simp_all
/-- Arrays.fill: every place below n holds x; the rest stays -/
theorem p_fill_I {fu n : Nat} {x : Int32} {f : Nat → Int32} (hn : n < 2 ^ 31) (hf : n < fu) : ∃ g, f_Ar_fill_I fu x n f = some g ∧ (∀ k, k < n → g k = x) ∧ ∀ k, n ≤ k → g k = f k := by
  unfold f_Ar_fill_I
  obtain ⟨r, h1, h2, h3⟩ := iter_for (N := n) (b := f_Ar_fill_I_l5 x (mI n) n) (fun k (a : Int32 × (Nat → Int32)) => a.1 = mI k ∧ (∀ j, j < k → a.2 j = x) ∧ ∀ j, k ≤ j → a.2 j = f j) (P := fun r => (∀ k, k < n → r.2 k = x) ∧ ∀ k, n ≤ k → r.2 k = f k)
    (by
      rintro k ⟨i, g⟩ hk ⟨rfl, h1, h2⟩
      refine ⟨(mI (k + 1), upd g k x), ?_, rfl, fun j hj => ?_, fun j hj => ?_⟩
      · unfold f_Ar_fill_I_l5
        dsimp only
        rw [if_neg (by rw [mI_le (by omega) (by omega)]; omega), si_n hk hn, sb]
        rw [mI_1]
      · show upd g k x j = x
        rw [upd_at]
        split
        · rfl
        · exact h1 j (by omega)
      · show upd g k x j = f j
        rw [upd_at, if_neg (by omega)]; exact h2 j (by omega))
    (by
      rintro ⟨i, g⟩ ⟨rfl, h1, h2⟩
      refine ⟨(mI n, g), ?_, h1, h2⟩
      unfold f_Ar_fill_I_l5
      dsimp only
      rw [if_pos (by rw [mI_le (by omega) (by omega)]; omega)])
    fu 0 (mI 0, f) (Nat.zero_le _) (by omega) ⟨rfl, fun j hj => absurd hj (by omega), fun _ _ => rfl⟩
  refine ⟨r.2, ?_, h2, h3⟩
  show (iter (f_Ar_fill_I_l5 x (mI n) n) fu (mI 0, f)).bind _ = _
  rw [h1]; rfl
theorem p_fill_J {fu n : Nat} {x : Int64} {f : Nat → Int64} (hn : n < 2 ^ 31) (hf : n < fu) : ∃ g, f_Ar_fill_J fu x n f = some g ∧ (∀ k, k < n → g k = x) ∧ ∀ k, n ≤ k → g k = f k := by
  unfold f_Ar_fill_J
  obtain ⟨r, h1, h2, h3⟩ := iter_for (N := n) (b := f_Ar_fill_J_l6 x (mI n) n) (fun k (a : Int32 × (Nat → Int64)) => a.1 = mI k ∧ (∀ j, j < k → a.2 j = x) ∧ ∀ j, k ≤ j → a.2 j = f j) (P := fun r => (∀ k, k < n → r.2 k = x) ∧ ∀ k, n ≤ k → r.2 k = f k)
    (by
      rintro k ⟨i, g⟩ hk ⟨rfl, h1, h2⟩
      refine ⟨(mI (k + 1), vp_updL g k x), ?_, rfl, fun j hj => ?_, fun j hj => ?_⟩
      · unfold f_Ar_fill_J_l6
        dsimp only
        rw [if_neg (by rw [mI_le (by omega) (by omega)]; omega), sl_n hk hn, sb]
        rw [mI_1]
      · show vp_updL g k x j = x
        rw [updL_at]
        split
        · rfl
        · exact h1 j (by omega)
      · show vp_updL g k x j = f j
        rw [updL_at, if_neg (by omega)]; exact h2 j (by omega))
    (by
      rintro ⟨i, g⟩ ⟨rfl, h1, h2⟩
      refine ⟨(mI n, g), ?_, h1, h2⟩
      unfold f_Ar_fill_J_l6
      dsimp only
      rw [if_pos (by rw [mI_le (by omega) (by omega)]; omega)])
    fu 0 (mI 0, f) (Nat.zero_le _) (by omega) ⟨rfl, fun j hj => absurd hj (by omega), fun _ _ => rfl⟩
  refine ⟨r.2, ?_, h2, h3⟩
  show (iter (f_Ar_fill_J_l6 x (mI n) n) fu (mI 0, f)).bind _ = _
  rw [h1]; rfl
