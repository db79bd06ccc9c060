/-! bounds of the keys of rosters -/
theorem tr_eq {D : Nat} {lgN : Nat → Nat} {fbN : Nat → Int32} {fxN : Nat → Nat → Int32} {nd : Nat → Int32} {p : Nat} (hp : p % 3 ≠ 2) (t s : Nat) : tr_d D lgN fbN fxN nd p t s = tr_r D lgN fbN fxN p t s := by
  unfold tr_d tr_ok
  cases tr_r D lgN fbN fxN p t s with
  | none => rfl
  | some u => rw [sb]; simp [hp]
theorem tr_k_bd {scN pcN : Nat → Nat → Int32} {ch : Nat → Nat → Bool} (hsc : ∀ n, n < 3 → Lim 24 99 (scN n)) (hpc : ∀ n, n < 3 → Lim 16 99 (pcN n)) : ∀ p t s, p < 18 → s < 4 → -(2 ^ 50) ≤ tr_k scN pcN ch p t s ∧ tr_k scN pcN ch p t s ≤ 2 ^ 50 := by
  intro p t s hp hs
  have h1 := hsc (p % 3) (by omega) (4 * (p / 3) + s) (by omega)
  have h2 := hpc (p % 3) (by omega) (4 * sh (st3 t (p % 3)) + s) (by have := sh_lt (st3 t (p % 3)); omega)
  have h3 : (0 : Int) ≤ 4 ^ (17 - p) ∧ (4 : Int) ^ (17 - p) ≤ 4 ^ 17 := by
    have h : (4 : Nat) ^ (17 - p) ≤ 4 ^ 17 := Nat.pow_le_pow_right (by omega) (by omega)
    have e : ((4 ^ (17 - p) : Nat) : Int) = (4 : Int) ^ (17 - p) := by simp
    have h' := Int.ofNat_le.2 h
    rw [e] at h'
    exact ⟨Int.le_of_lt (Int.pow_pos (by omega)), Int.le_trans h' (by decide)⟩
  have h4 : (0 : Int) ≤ (if ch p s = true then 4096 else 0) ∧ (if ch p s = true then (4096 : Int) else 0) ≤ 4096 := by split <;> omega
  unfold tr_k tr_w
  generalize (if ch p s = true then (4096 : Int) else 0) = e at *
  generalize (scN (p % 3) (4 * (p / 3) + s)).toInt = x1 at *
  generalize (pcN (p % 3) (4 * sh (st3 t (p % 3)) + s)).toInt = x2 at *
  generalize (4 : Int) ^ (17 - p) = g at *
  have : s = 0 ∨ s = 1 ∨ s = 2 ∨ s = 3 := by omega
  rcases this with rfl | rfl | rfl | rfl <;> simp <;> omega
theorem tr_K_bd {scN pcN : Nat → Nat → Int32} {ch : Nat → Nat → Bool} {δ : Nat → Nat → Nat → Option Nat} {t0 : Nat} (hsc : ∀ n, n < 3 → Lim 24 99 (scN n)) (hpc : ∀ n, n < 3 → Lim 16 99 (pcN n)) (p : Nat) (hp : p ≤ 18) (c : Nat) : -2 ^ 60 ≤ dp_K δ (tr_k scN pcN ch) t0 p c ∧ dp_K δ (tr_k scN pcN ch) t0 p c ≤ 2 ^ 60 := by
  have := kk_bd (δ := δ) (t0 := t0) (D := 18) (tr_k_bd (ch := ch) hsc hpc) (by omega) p c hp
  omega
