/-! step functions that agree; a filter behind a step; keys of rosters as weight and code -/
theorem dpT_congr {δ δ2 : Nat → Nat → Nat → Option Nat} {t0 p : Nat} (h : ∀ d, d < p → ∀ t s, δ d t s = δ2 d t s) : ∀ d, d ≤ p → ∀ c, dp_T δ t0 d c = dp_T δ2 t0 d c := by
  intro d
  induction d with
  | zero => intro _ c; rfl
  | succ d ih =>
    intro hd c
    show (dp_T δ t0 d (c / 4)).bind _ = (dp_T δ2 t0 d (c / 4)).bind _
    rw [ih (by omega)]
    congr 1
    funext t
    exact h d (by omega) t _
theorem dpK_congr {δ δ2 : Nat → Nat → Nat → Option Nat} {κ : Nat → Nat → Nat → Int} {t0 p : Nat} (h : ∀ d, d < p → ∀ t s, δ d t s = δ2 d t s) : ∀ d, d ≤ p + 1 → ∀ c, dp_K δ κ t0 d c = dp_K δ2 κ t0 d c := by
  intro d
  induction d with
  | zero => intro _ c; rfl
  | succ d ih =>
    intro hd c
    unfold dp_K
    rw [ih (by omega), dpT_congr h d (by omega)]
theorem dpB_filter {δ δ2 : Nat → Nat → Nat → Option Nat} {t0 p t' : Nat} {f : Nat → Bool} (h : ∀ d, d < p → ∀ t s, δ d t s = δ2 d t s) (hp : ∀ t s, δ p t s = (δ2 p t s).bind fun u => if f u = true then some u else none) (c : Nat) : dp_B δ t0 (p + 1) t' c = (dp_B δ2 t0 (p + 1) t' c && f t') := by
  unfold dp_B
  have e1 : dp_T δ t0 (p + 1) c = (dp_T δ2 t0 p (c / 4)).bind fun t => δ p t (c % 4) := by
    show (dp_T δ t0 p (c / 4)).bind _ = _
    rw [dpT_congr h p (Nat.le_refl p)]
  have e2 : dp_T δ2 t0 (p + 1) c = (dp_T δ2 t0 p (c / 4)).bind fun t => δ2 p t (c % 4) := rfl
  rw [e1, e2]
  cases dp_T δ2 t0 p (c / 4) with
  | none => simp
  | some t =>
    rw [sb, sb, hp]
    cases δ2 p t (c % 4) with
    | none => simp
    | some u =>
      rw [sb]
      by_cases hu : f u = true
      · rw [if_pos hu]
        by_cases q : u = t'
        · subst q; simp [hu]
        · simp [q]
      · rw [if_neg hu]
        by_cases q : u = t'
        · subst q; simp at hu; simp [hu]
        · simp [q]
theorem isMin_filter {δ δ2 : Nat → Nat → Nat → Option Nat} {κ : Nat → Nat → Nat → Int} {t0 p t' : Nat} {f : Nat → Bool} {z : Int} (h : ∀ d, d < p → ∀ t s, δ d t s = δ2 d t s) (hp : ∀ t s, δ p t s = (δ2 p t s).bind fun u => if f u = true then some u else none) (hm : IsMin (dp_B δ2 t0 (p + 1) t') (dp_K δ2 κ t0 (p + 1)) z) : IsMin (dp_B δ t0 (p + 1) t') (dp_K δ κ t0 (p + 1)) (if f t' = true then z else NO) := by
  by_cases hf : f t' = true
  · rw [if_pos hf]
    exact isMin_congr (fun c => by rw [dpB_filter h hp c, hf, Bool.and_true]) (fun c _ => (dpK_congr h (p + 1) (Nat.le_refl _) c).symm) hm
  · rw [if_neg hf]
    refine isMin_none (fun c => ?_)
    rw [dpB_filter h hp c]
    simp at hf
    rw [hf, Bool.and_false]
/-- the key of a roster: its weight, and its code in the low bits -/
theorem key_code {δ : Nat → Nat → Nat → Option Nat} {κ wt : Nat → Nat → Nat → Int} {t0 P : Nat} (hP : P ≤ 18) (hκ : ∀ p t s, p < P → κ p t s = wt p t s * 2 ^ 36 + (s : Int) * 4 ^ (17 - p)) : ∀ p, p ≤ P → ∀ c t, dp_T δ t0 p c = some t → dp_K δ κ t0 p c = dp_K δ wt t0 p c * 2 ^ 36 + (c : Int) * 4 ^ (18 - p) := by
  intro p
  induction p with
  | zero =>
    intro _ c t h
    unfold dp_T at h
    split at h
    · rename_i h0; subst h0; simp [dp_K]
    · cases h
  | succ p ih =>
    intro hp c t h
    obtain ⟨u, h1, h2⟩ := ob (show (dp_T δ t0 p (c / 4)).bind _ = some t from h)
    have ek : ∀ κ' : Nat → Nat → Nat → Int, dp_K δ κ' t0 (p + 1) c = dp_K δ κ' t0 p (c / 4) + κ' p u (c % 4) := by
      intro κ'
      show dp_K δ κ' t0 p (c / 4) + _ = _
      rw [h1]
    rw [ek κ, ek wt, ih (by omega) (c / 4) u h1, hκ p u (c % 4) (by omega)]
    have e4 : (4 : Int) ^ (18 - p) = 4 ^ (17 - p) * 4 := by
      rw [show 18 - p = 17 - p + 1 by omega, Int.pow_succ]
    rw [e4, show 18 - (p + 1) = 17 - p by omega]
    have hc : (c : Int) = 4 * ((c / 4 : Nat) : Int) + ((c % 4 : Nat) : Int) := by omega
    generalize (4 : Int) ^ (17 - p) = g at *
    generalize ((c / 4 : Nat) : Int) = x at *
    generalize ((c % 4 : Nat) : Int) = y at *
    rw [hc, Int.add_mul, Int.add_mul]
    have : x * (g * 4) = 4 * x * g := by rw [← Int.mul_assoc, Int.mul_comm 4 x, Int.mul_assoc, Int.mul_assoc, Int.mul_comm 4 g]
    rw [this]
    omega
