/-! the reference's lightest: the least over all triples of shifts of a day -/
def FAR : Int := 1000000000
def LM (val : Nat → Option Int) (K : Nat) (v : Int) : Prop := (v = FAR ∧ ∀ k, k < K → val k = none) ∨ ∃ k, k < K ∧ val k = some v ∧ ∀ k' v', k' < K → val k' = some v' → v ≤ v'
theorem lm_none {val : Nat → Option Int} {K : Nat} {v : Int} (h : val K = none) (hm : LM val K v) : LM val (K + 1) v := by
  rcases hm with ⟨h1, h2⟩ | ⟨k, h1, h2, h3⟩
  · refine .inl ⟨h1, fun k hk => ?_⟩
    by_cases e : k = K
    · rw [e]; exact h
    · exact h2 k (by omega)
  · refine .inr ⟨k, by omega, h2, fun k' v' hk' hv => ?_⟩
    by_cases e : k' = K
    · rw [e, h] at hv; cases hv
    · exact h3 k' v' (by omega) hv
theorem lm_some {val : Nat → Option Int} {K : Nat} {v w : Int} (h : val K = some w) (hw : w < FAR) (hm : LM val K v) : LM val (K + 1) (if v ≤ w then v else w) := by
  rcases hm with ⟨h1, h2⟩ | ⟨k, h1, h2, h3⟩
  · rw [if_neg (by omega)]
    refine .inr ⟨K, by omega, h, fun k' v' hk' hv => ?_⟩
    by_cases e : k' = K
    · rw [e, h] at hv; cases hv; exact Int.le_refl _
    · rw [h2 k' (by omega)] at hv; cases hv
  · by_cases hl : v ≤ w
    · rw [if_pos hl]
      refine .inr ⟨k, by omega, h2, fun k' v' hk' hv => ?_⟩
      by_cases e : k' = K
      · rw [e, h] at hv; cases hv; exact hl
      · exact h3 k' v' (by omega) hv
    · rw [if_neg hl]
      refine .inr ⟨K, by omega, h, fun k' v' hk' hv => ?_⟩
      by_cases e : k' = K
      · rw [e, h] at hv; cases hv; exact Int.le_refl _
      · have := h3 k' v' (by omega) hv; omega
theorem lm_skip {val : Nat → Option Int} {K v} (n : Nat) (h : ∀ k, K ≤ k → k < K + n → val k = none) (hm : LM val K v) : LM val (K + n) v := by
  induction n with
  | zero => exact hm
  | succ n ih => exact lm_none (h (K + n) (by omega) (by omega)) (ih (fun k h1 h2 => h k h1 (by omega)))
theorem lm_bd {val : Nat → Option Int} {K : Nat} {v L : Int} (hb : ∀ k v, val k = some v → 0 ≤ v ∧ v ≤ L) (hL : L < FAR) (hm : LM val K v) : 0 ≤ v ∧ v ≤ FAR := by
  have hF : FAR = 1000000000 := rfl
  rcases hm with ⟨h1, _⟩ | ⟨k, _, h2, _⟩
  · omega
  · have := hb k v h2; omega
