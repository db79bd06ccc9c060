/-! the reference's walk over one line, and the class's automaton against it -/
def bI (b : Bool) : Int32 := if b = true then 1 else 0
def rf_l (s0 : Nat) : Nat → Nat → Nat
  | 0, _ => s0
  | _ + 1, c => c % 4
def rf_r (w0 : Nat) : Nat → Nat → Nat
  | 0, _ => w0
  | d + 1, c => if c % 4 = 0 then 0 else rf_r w0 d (c / 4) + 1
def rf_ok (s0 w0 lg : Nat) (fb : Int32) (fx : Nat → Int32) : Nat → Nat → Bool
  | 0, _ => true
  | d + 1, c => rf_ok s0 w0 lg fb fx d (c / 4) && (okX (fx d) (c % 4) && (okF fb (4 * rf_l s0 d (c / 4) + c % 4) && decide (rf_r w0 (d + 1) c ≤ lg)))
def rf_p (s0 : Nat) (sc pc : Nat → Int32) : Nat → Nat → Int
  | 0, _ => 0
  | d + 1, c => rf_p s0 sc pc d (c / 4) + ((sc (4 * d + c % 4)).toInt + (pc (4 * rf_l s0 d (c / 4) + c % 4)).toInt)
def rf_q (q : Nat → Int32) : Nat → Nat → Int
  | 0, _ => 0
  | d + 1, c => rf_q q d (c / 4) + (q (4 * d + c % 4)).toInt
def rf_g (n : Nat) : Nat → Nat → Int
  | 0, _ => 0
  | d + 1, c => rf_g n d (c / 4) + ((c % 4 : Nat) : Int) * 2 ^ (36 - 2 * (3 * d + n + 1))
theorem rf_l_lt {s0 : Nat} (h : s0 < 4) (d c : Nat) : rf_l s0 d c < 4 := by
  cases d with
  | zero => exact h
  | succ d => exact Nat.mod_lt _ (by omega)
theorem rf_r_le {w0 : Nat} (h : w0 ≤ 4) : ∀ d c, rf_r w0 d c ≤ 4 + d := by
  intro d
  induction d with
  | zero => intro c; exact h
  | succ d ih =>
    intro c
    have := ih (c / 4)
    unfold rf_r
    split <;> omega
/-- Lemma A: the automaton, days worked collapsed, accepts just the legal lines -/
theorem lemA {s0 w0 lg D : Nat} {fb : Int32} {fx : Nat → Int32} (hs0 : s0 < 4) (hw : (s0 = 0 ∧ w0 = 0) ∨ (s0 ≠ 0 ∧ 1 ≤ w0)) : ∀ d, d ≤ D → ∀ c, c < 4 ^ d → (dp_T (cl_d D lg fb fx) (so s0 w0) d c = none ∧ rf_ok s0 w0 lg fb fx d c = false) ∨ ∃ t, dp_T (cl_d D lg fb fx) (so s0 w0) d c = some t ∧ rf_ok s0 w0 lg fb fx d c = true ∧ sh t = rf_l s0 d c ∧ wk t ≤ rf_r w0 d c ∧ (wk t = rf_r w0 d c ∨ rf_r w0 d c + (D - d) ≤ lg) := by
  intro d
  induction d with
  | zero =>
    intro _ c hc
    have : c = 0 := by omega
    subst this
    have e : wk (so s0 w0) = w0 ∧ sh (so s0 w0) = s0 := by
      rcases hw with ⟨rfl, rfl⟩ | ⟨h, h'⟩
      · exact ⟨rfl, rfl⟩
      · exact ⟨wk_so hs0 h h', sh_so hs0 h'⟩
    exact .inr ⟨so s0 w0, rfl, rfl, e.2, by rw [e.1]; exact Nat.le_refl _, .inl e.1⟩
  | succ d ih =>
    intro hd c hc
    have hc4 : c / 4 < 4 ^ d := by rw [Nat.pow_succ] at hc; omega
    have hs : c % 4 < 4 := Nat.mod_lt _ (by omega)
    have eT : dp_T (cl_d D lg fb fx) (so s0 w0) (d + 1) c = (dp_T (cl_d D lg fb fx) (so s0 w0) d (c / 4)).bind fun t => cl_d D lg fb fx d t (c % 4) := rfl
    have eO : rf_ok s0 w0 lg fb fx (d + 1) c = (rf_ok s0 w0 lg fb fx d (c / 4) && (okX (fx d) (c % 4) && (okF fb (4 * rf_l s0 d (c / 4) + c % 4) && decide (rf_r w0 (d + 1) c ≤ lg)))) := rfl
    have eR : rf_r w0 (d + 1) c = if c % 4 = 0 then 0 else rf_r w0 d (c / 4) + 1 := rfl
    rw [eT, eO]
    rcases ih (by omega) (c / 4) hc4 with ⟨h1, h2⟩ | ⟨t, h1, h2, h3, h4, h5⟩
    · rw [h1, h2]; exact .inl ⟨rfl, rfl⟩
    · rw [h1, h2, sb, Bool.true_and, ← h3]
      unfold cl_d
      by_cases hx : okX (fx d) (c % 4) = true
      · by_cases hf : okF fb (4 * sh t + c % 4) = true
        · rw [if_pos ⟨hx, hf⟩, hx, hf, Bool.true_and, Bool.true_and]
          by_cases h0 : c % 4 = 0
          · rw [if_pos h0]
            rw [if_pos h0] at eR
            refine .inr ⟨0, rfl, by rw [eR]; simp, ?_, by rw [eR]; exact Nat.le_refl _, .inl (by rw [eR]; rfl)⟩
            show 0 = c % 4
            exact h0.symm
          · rw [if_neg h0]
            rw [if_neg h0] at eR
            by_cases hl : wk t + 1 ≤ lg
            · rw [if_pos hl]
              have hr : rf_r w0 (d + 1) c ≤ lg := by rw [eR]; omega
              refine .inr ⟨_, rfl, decide_eq_true hr, ?_, ?_, ?_⟩
              · show _ = c % 4
                refine sh_so hs ?_
                split <;> omega
              · rw [wk_so hs h0 (by split <;> omega), eR]
                split <;> omega
              · rw [wk_so hs h0 (by split <;> omega), eR]
                split
                · right; omega
                · rename_i hcol
                  rcases h5 with h5 | h5
                  · left; omega
                  · exfalso; omega
            · rw [if_neg hl]
              refine .inl ⟨rfl, ?_⟩
              have hr : ¬ rf_r w0 (d + 1) c ≤ lg := by rw [eR]; omega
              simp [hr]
        · rw [if_neg (fun h => hf h.2)]
          have : okF fb (4 * sh t + c % 4) = false := by simpa using hf
          rw [this]
          exact .inl ⟨rfl, by simp⟩
      · rw [if_neg (fun h => hx h.1)]
        have : okX (fx d) (c % 4) = false := by simpa using hx
        rw [this]
        exact .inl ⟨rfl, by simp⟩
theorem lemA_some {s0 w0 lg D : Nat} {fb : Int32} {fx : Nat → Int32} (hs0 : s0 < 4) (hw : (s0 = 0 ∧ w0 = 0) ∨ (s0 ≠ 0 ∧ 1 ≤ w0)) {d c : Nat} (hd : d ≤ D) (hc : c < 4 ^ d) : (dp_T (cl_d D lg fb fx) (so s0 w0) d c).isSome = rf_ok s0 w0 lg fb fx d c := by
  rcases lemA (D := D) (lg := lg) (fb := fb) (fx := fx) hs0 hw d hd c hc with ⟨h1, h2⟩ | ⟨t, h1, h2, _⟩
  · rw [h1, h2]; rfl
  · rw [h1, h2]; rfl
/-- the key of a legal line -/
theorem lemK {s0 w0 lg D n : Nat} {fb : Int32} {fx sc pc q : Nat → Int32} (hs0 : s0 < 4) (hw : (s0 = 0 ∧ w0 = 0) ∨ (s0 ≠ 0 ∧ 1 ≤ w0)) : ∀ d, d ≤ D → ∀ c, c < 4 ^ d → rf_ok s0 w0 lg fb fx d c = true → dp_K (cl_d D lg fb fx) (cl_k n sc pc q) (so s0 w0) d c = (rf_p s0 sc pc d c - rf_q q d c) * 2 ^ 36 + rf_g n d c := by
  intro d
  induction d with
  | zero => intro _ c _ _; rfl
  | succ d ih =>
    intro hd c hc hok
    have hc4 : c / 4 < 4 ^ d := by rw [Nat.pow_succ] at hc; omega
    have eO : rf_ok s0 w0 lg fb fx (d + 1) c = (rf_ok s0 w0 lg fb fx d (c / 4) && (okX (fx d) (c % 4) && (okF fb (4 * rf_l s0 d (c / 4) + c % 4) && decide (rf_r w0 (d + 1) c ≤ lg)))) := rfl
    rw [eO, Bool.and_eq_true] at hok
    rcases lemA (D := D) (lg := lg) (fb := fb) (fx := fx) hs0 hw d (by omega) (c / 4) hc4 with ⟨h1, h2⟩ | ⟨t, h1, h2, h3, _⟩
    · rw [h2] at hok; cases hok.1
    · have ek : dp_K (cl_d D lg fb fx) (cl_k n sc pc q) (so s0 w0) (d + 1) c = dp_K (cl_d D lg fb fx) (cl_k n sc pc q) (so s0 w0) d (c / 4) + cl_k n sc pc q d t (c % 4) := by
        show dp_K _ _ _ d (c / 4) + _ = _
        rw [h1]
      have e1 : rf_p s0 sc pc (d + 1) c = rf_p s0 sc pc d (c / 4) + ((sc (4 * d + c % 4)).toInt + (pc (4 * rf_l s0 d (c / 4) + c % 4)).toInt) := rfl
      have e2 : rf_q q (d + 1) c = rf_q q d (c / 4) + (q (4 * d + c % 4)).toInt := rfl
      have e3 : rf_g n (d + 1) c = rf_g n d (c / 4) + ((c % 4 : Nat) : Int) * 2 ^ (36 - 2 * (3 * d + n + 1)) := rfl
      rw [ek, ih (by omega) (c / 4) hc4 h2, e1, e2, e3]
      unfold cl_k
      rw [h3]
      generalize ((c % 4 : Nat) : Int) * 2 ^ (36 - 2 * (3 * d + n + 1)) = g
      omega
/-- digits stand in the order of codes -/
theorem rf_g_lt {n : Nat} (hn : n < 3) : ∀ d, d < 6 → ∀ c c', c < c' → rf_g n (d + 1) c + 2 ^ (36 - 2 * (3 * d + n + 1)) ≤ rf_g n (d + 1) c' ∨ c' / 4 ^ (d + 1) ≠ 0 := by
  intro d
  induction d with
  | zero =>
    intro _ c c' h
    by_cases h' : c' / 4 ^ 1 = 0
    · left
      have h1 : c % 4 = c := by omega
      have h2 : c' % 4 = c' := by omega
      unfold rf_g rf_g
      rw [h1, h2]
      have h4 := @pow34 n 0
      generalize (2 : Int) ^ (36 - 2 * (3 * 0 + n + 1)) = p at *
      have : (c = 0 ∧ c' = 1) ∨ (c = 0 ∧ c' = 2) ∨ (c = 0 ∧ c' = 3) ∨ (c = 1 ∧ c' = 2) ∨ (c = 1 ∧ c' = 3) ∨ (c = 2 ∧ c' = 3) := by omega
      rcases this with ⟨rfl, rfl⟩ | ⟨rfl, rfl⟩ | ⟨rfl, rfl⟩ | ⟨rfl, rfl⟩ | ⟨rfl, rfl⟩ | ⟨rfl, rfl⟩ <;> simp <;> omega
    · right; exact h'
  | succ d ih =>
    intro hd c c' h
    by_cases h' : c' / 4 ^ (d + 1 + 1) = 0
    · left
      have e1 : ∀ c, rf_g n (d + 1 + 1) c = rf_g n (d + 1) (c / 4) + ((c % 4 : Nat) : Int) * 2 ^ (36 - 2 * (3 * (d + 1) + n + 1)) := fun _ => rfl
      rw [e1 c, e1 c']
      have h4 := @pow34 n (d + 1)
      have e2 : (2 : Int) ^ (36 - 2 * (3 * d + n + 1)) = 2 ^ (36 - 2 * (3 * (d + 1) + n + 1)) * 64 := by
        rw [show 36 - 2 * (3 * d + n + 1) = 36 - 2 * (3 * (d + 1) + n + 1) + 6 by omega, Int.pow_add]
        rfl
      by_cases hq : c / 4 = c' / 4
      · rw [hq]
        have hm : c % 4 < c' % 4 := by omega
        have hm' : c' % 4 < 4 := Nat.mod_lt _ (by omega)
        generalize c % 4 = x at *
        generalize c' % 4 = y at *
        generalize (2 : Int) ^ (36 - 2 * (3 * (d + 1) + n + 1)) = p at *
        have : (x = 0 ∧ y = 1) ∨ (x = 0 ∧ y = 2) ∨ (x = 0 ∧ y = 3) ∨ (x = 1 ∧ y = 2) ∨ (x = 1 ∧ y = 3) ∨ (x = 2 ∧ y = 3) := by omega
        rcases this with ⟨rfl, rfl⟩ | ⟨rfl, rfl⟩ | ⟨rfl, rfl⟩ | ⟨rfl, rfl⟩ | ⟨rfl, rfl⟩ | ⟨rfl, rfl⟩ <;> simp <;> omega
      · rcases ih (by omega) (c / 4) (c' / 4) (by omega) with h1 | h1
        · rw [e2] at h1
          have hm : c % 4 < 4 := Nat.mod_lt _ (by omega)
          have hm' : c' % 4 < 4 := Nat.mod_lt _ (by omega)
          generalize c % 4 = x at *
          generalize c' % 4 = y at *
          generalize (2 : Int) ^ (36 - 2 * (3 * (d + 1) + n + 1)) = p at *
          have hx : x = 0 ∨ x = 1 ∨ x = 2 ∨ x = 3 := by omega
          have hy : y = 0 ∨ y = 1 ∨ y = 2 ∨ y = 3 := by omega
          rcases hx with rfl | rfl | rfl | rfl <;> rcases hy with rfl | rfl | rfl | rfl <;> simp <;> omega
        · exfalso
          apply h1
          rw [Nat.div_div_eq_div_mul, show 4 * 4 ^ (d + 1) = 4 ^ (d + 1 + 1) by rw [Nat.pow_succ 4 (d + 1), Nat.mul_comm]]
          exact h'
    · right; exact h'
