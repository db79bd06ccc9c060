/-! one place of the roster search -/
def KInv (δ : Nat → Nat → Nat → Option Nat) (κ : Nat → Nat → Nat → Int) (t0 p t s : Nat) (nk : Nat → Int64) : Prop := ∀ t', t' < 2197 → ∃ z, nk t' = jJ z ∧ IsMin (dp_Q δ t0 p t' t s) (dp_K δ κ t0 (p + 1)) z
def TInv (δ : Nat → Nat → Nat → Option Nat) (κ : Nat → Nat → Nat → Int) (t0 p : Nat) (k : Nat → Int64) : Prop := ∀ t, t < 2197 → ∃ z, k t = jJ z ∧ IsMin (dp_B δ t0 p t) (dp_K δ κ t0 p) z
theorem mI_div {a b : Nat} (ha : a < 2 ^ 31) (hb : b < 2 ^ 31) : mI a / mI b = mI (a / b) := (Int32.ofNat_div ha hb).symm
def Pl (δ : Nat → Nat → Nat → Option Nat) (κ : Nat → Nat → Nat → Int) (p σ : Nat) (sa : Nat → Int32) (ss : Nat → Int64) : Prop := ∀ t s, t < 2197 → s < 4 → ((sa (4 * (t / σ % 13) + s) = -1 ∧ δ p t s = none) ∨ ∃ u, u < 13 ∧ sa (4 * (t / σ % 13) + s) = mI u ∧ δ p t s = some (t - σ * (t / σ % 13) + σ * u)) ∧ ss (4 * (t / σ % 13) + s) = jJ (κ p t s)
theorem p_leaveTriple {fu p σ t t0 : Nat} {δ : Nat → Nat → Nat → Option Nat} {κ : Nat → Nat → Nat → Int} {sa : Nat → Int32} {ss k nk : Nat → Int64} {z : Int} (hfu : 4 < fu) (hσ : σ = 169 ∨ σ = 13 ∨ σ = 1) (ht : t < 2197) (hP : Pl δ κ p σ sa ss) (hκ : ∀ t s, t < 2197 → s < 4 → -2 ^ 60 ≤ κ p t s ∧ κ p t s ≤ 2 ^ 60) (hK0 : ∀ c, -2 ^ 60 ≤ dp_K δ κ t0 p c ∧ dp_K δ κ t0 p c ≤ 2 ^ 60) (hK1 : ∀ c, -2 ^ 60 ≤ dp_K δ κ t0 (p + 1) c ∧ dp_K δ κ t0 (p + 1) c ≤ 2 ^ 60)
    (hk : k t = jJ z) (hm : IsMin (dp_B δ t0 p t) (dp_K δ κ t0 p) z) (hz : z ≠ NO) (hi : KInv δ κ t0 p t 0 nk) :
    ∃ r, f_Rs_leaveTriple fu (mI t) (mI σ) sa ss k nk = some r ∧ KInv δ κ t0 p (t + 1) 0 r := by
  have hN : NO = 2 ^ 62 := by decide
  have hx : t / σ % 13 < 13 := Nat.mod_lt _ (by omega)
  have hd1 : t / σ ≤ t := Nat.div_le_self _ _
  have hσ0 : ¬ mI σ = 0 := fun h => absurd ((mI_inj (b := 0) (by omega) (by omega)).1 h) (by omega)
  have hle : σ * (t / σ % 13) ≤ t := by rcases hσ with rfl | rfl | rfl <;> omega
  have hnx : ∀ u, u < 13 → t - σ * (t / σ % 13) + σ * u < 2197 := by
    intro u hu
    rcases hσ with rfl | rfl | rfl <;> omega
  unfold f_Rs_leaveTriple
  rw [if_neg hσ0]
  have e1 : (mI t / mI σ) - (mI t / mI σ) / 13 * 13 = mI (t / σ % 13) := by
    show (mI t / mI σ) - (mI t / mI σ) / mI 13 * mI 13 = _
    rw [mI_div (by omega) (by omega), mI_div (by omega) (by omega), mI_mul, mI_sub (by omega)]
    congr 1
    omega
  rw [e1, mI_mul, mI_sub hle]
  obtain ⟨r, h1, h2⟩ := iter_for (N := 4) (b := f_Rs_leaveTriple_l17 (mI t) (mI σ) (mI (t / σ % 13)) (mI (t - σ * (t / σ % 13))) sa ss k) (fun s (a : Int32 × (Nat → Int64)) => a.1 = mI s ∧ KInv δ κ t0 p t s a.2) (P := fun r => KInv δ κ t0 p t 4 r.2)
    (by
      rintro s ⟨i, nk⟩ hs ⟨rfl, hi⟩
      unfold f_Rs_leaveTriple_l17
      dsimp only
      rw [if_neg (show ¬ (4 : Int32) ≤ mI s from fun h => absurd ((mI_le (a := 4) (by omega) (by omega)).1 h) (by omega)), p_cell, sb, gi_n (by omega) (by omega), sb]
      obtain ⟨hc, hss⟩ := hP t s ht hs
      rcases hc with ⟨c1, c2⟩ | ⟨u, hu, c1, c2⟩
      · rw [if_pos c1]
        refine ⟨(mI (s + 1), nk), by unfold f_Rs_leaveTriple_b90; rw [mI_1], rfl, fun t' ht' => ?_⟩
        have hne : δ p t s ≠ some t' := by rw [c2]; intro h; cases h
        obtain ⟨z', a1, a2⟩ := hi t' ht'
        exact ⟨z', a1, isMin_congr (fun c => (step_no hne c).symm) (fun _ _ => rfl) a2⟩
      · have hv := hnx u hu
        rw [c1, if_neg (mI_ne_neg (by omega)), gl_n ht (by omega), sb, sb, gl_n (by omega) (by omega), sb, mI_mul, mI_add, gl_n hv (by omega), sb, sl_n hv (by omega), sb, hss, hk]
        obtain ⟨zu, a1, a2⟩ := hi _ hv
        dsimp only at a1
        have b4 := isMin_rng (L := 2 ^ 60) hK0 (by omega) hm
        have b5 := isMin_rng (L := 2 ^ 60) hK1 (by omega) a2
        have b6 := hκ t s ht hs
        rw [a1, jJ_add, jJ_min (by omega) (by omega) (by omega) (by omega)]
        refine ⟨_, by unfold f_Rs_leaveTriple_b90; rw [mI_1], rfl, fun t' ht' => ?_⟩
        dsimp only
        rw [updL_at]
        by_cases htu : t' = t - σ * (t / σ % 13) + σ * u
        · subst htu
          rw [if_pos rfl]
          exact ⟨_, rfl, step_key hs (fun c => by have := hK1 c; omega) hm hz c2 a2⟩
        · rw [if_neg htu]
          have hne : δ p t s ≠ some t' := by rw [c2]; intro h; cases h; exact htu rfl
          obtain ⟨z', a1, a2⟩ := hi t' ht'
          exact ⟨z', a1, isMin_congr (fun c => (step_no hne c).symm) (fun _ _ => rfl) a2⟩)
    (by
      rintro ⟨i, nk⟩ ⟨rfl, hi⟩
      refine ⟨(mI 4, nk), ?_, hi⟩
      unfold f_Rs_leaveTriple_l17
      dsimp only
      rw [if_pos (show (4 : Int32) ≤ mI 4 from (mI_le (a := 4) (by omega) (by omega)).2 (by omega))])
    fu 0 (mI 0, nk) (by omega) (by omega) ⟨rfl, hi⟩
  refine ⟨r.2, ?_, fun t' ht' => ?_⟩
  · show (iter _ fu (mI 0, nk)).bind _ = _
    rw [h1]; rfl
  · obtain ⟨z', a1, a2⟩ := h2 t' ht'
    exact ⟨z', a1, isMin_congr (fun c => qq_row c) (fun _ _ => rfl) a2⟩
theorem p_strideOf : ∀ n, n < 3 → f_Rs_strideOf (mI n) = some (mI (if n = 0 then 169 else if n = 1 then 13 else 1)) := by decide
theorem p_takePlace {fu p n t0 : Nat} {δ : Nat → Nat → Nat → Option Nat} {κ : Nat → Nat → Nat → Int} {sa : Nat → Int32} {ss k nk : Nat → Int64} (hfu : 2197 < fu) (hn : n < 3) (hst : ∀ c t, dp_T δ t0 p c = some t → t < 2197) (hP : Pl δ κ p (if n = 0 then 169 else if n = 1 then 13 else 1) sa ss) (hκ : ∀ t s, t < 2197 → s < 4 → -2 ^ 60 ≤ κ p t s ∧ κ p t s ≤ 2 ^ 60) (hK0 : ∀ c, -2 ^ 60 ≤ dp_K δ κ t0 p c ∧ dp_K δ κ t0 p c ≤ 2 ^ 60) (hK1 : ∀ c, -2 ^ 60 ≤ dp_K δ κ t0 (p + 1) c ∧ dp_K δ κ t0 (p + 1) c ≤ 2 ^ 60) (hS : TInv δ κ t0 p k) :
    ∃ k', f_Rs_takePlace fu (mI n) sa ss k nk = some (k', k) ∧ TInv δ κ t0 (p + 1) k' := by
  have hN : NO = 2 ^ 62 := by decide
  have hσ : (if n = 0 then 169 else if n = 1 then 13 else 1) = 169 ∨ (if n = 0 then 169 else if n = 1 then 13 else 1) = 13 ∨ (if n = 0 then 169 else if n = 1 then 13 else 1) = 1 := by
    split
    · exact .inl rfl
    · split
      · exact .inr (.inl rfl)
      · exact .inr (.inr rfl)
  unfold f_Rs_takePlace
  obtain ⟨g1, a1, a2, _⟩ := p_fill_J (fu := fu) (n := 2197) (x := (4611686018427387904 : Int64)) (f := nk) (by omega) hfu
  rw [p_strideOf n hn, sb, a1, sb]
  generalize (if n = 0 then 169 else if n = 1 then 13 else 1) = σ at *
  have h0 : KInv δ κ t0 p 0 0 g1 := fun t' ht' => ⟨NO, by rw [a2 t' ht', NO_jJ], isMin_none (fun c => qq_zero c)⟩
  obtain ⟨r, h1, h2⟩ := iter_for (N := 2197) (b := f_Rs_takePlace_l17 fu (mI σ) sa ss k) (fun t (a : Int32 × (Nat → Int64)) => a.1 = mI t ∧ KInv δ κ t0 p t 0 a.2) (P := fun r => KInv δ κ t0 p 2197 0 r.2)
    (by
      rintro t ⟨i, nk⟩ ht ⟨rfl, hi⟩
      obtain ⟨z, c1, c2⟩ := hS t ht
      have b := isMin_rng (L := 2 ^ 60) hK0 (by omega) c2
      unfold f_Rs_takePlace_l17
      dsimp only
      rw [if_neg (show ¬ (2197 : Int32) ≤ mI t from fun h => absurd ((mI_le (a := 2197) (by omega) (by omega)).1 h) (by omega)), gl_n ht (by omega), sb, NO_jJ]
      by_cases hz : z = NO
      · rw [if_pos (by rw [c1, hz])]
        refine ⟨(mI (t + 1), nk), by unfold f_Rs_takePlace_b43; rw [mI_1], rfl, fun t' ht' => ?_⟩
        have hno := (isMin_no (fun c _ => by have := hK0 c; omega) c2).1 hz
        obtain ⟨z', d1, d2⟩ := hi t' ht'
        exact ⟨z', d1, isMin_congr (fun c => qq_none hno c) (fun _ _ => rfl) d2⟩
      · rw [if_neg (by rw [c1, jJ_inj (by omega) (by omega) (by omega) (by omega)]; exact hz)]
        obtain ⟨r, d1, d2⟩ := p_leaveTriple (fu := fu) (by omega) hσ ht hP hκ hK0 hK1 c1 c2 hz hi
        dsimp only at d1
        rw [d1, sb]
        exact ⟨(mI (t + 1), r), by unfold f_Rs_takePlace_b43; rw [mI_1], rfl, d2⟩)
    (by
      rintro ⟨i, nk⟩ ⟨rfl, hi⟩
      refine ⟨(mI 2197, nk), ?_, hi⟩
      unfold f_Rs_takePlace_l17
      dsimp only
      rw [if_pos (show (2197 : Int32) ≤ mI 2197 from (mI_le (a := 2197) (by omega) (by omega)).2 (by omega))])
    fu 0 (mI 0, g1) (by omega) (by omega) ⟨rfl, h0⟩
  refine ⟨r.2, ?_, fun t' ht' => ?_⟩
  · show (iter _ fu (mI 0, g1)).bind _ = _
    rw [h1]; rfl
  · obtain ⟨z', d1, d2⟩ := h2 t' ht'
    exact ⟨z', d1, isMin_congr (fun c => qq_end hst c) (fun _ _ => rfl) d2⟩
