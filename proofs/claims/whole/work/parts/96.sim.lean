/-! class and reference on the same roster: states and weights side by side -/
def Rn (D lg d x y : Nat) : Prop := ra y = sh x ∧ wk x ≤ rr y ∧ (wk x = rr y ∨ rr y + (D - d) ≤ lg)
theorem rr_4 {s r : Nat} (hs : s ≠ 0) (hr : 1 ≤ r) (hr4 : r ≤ 4) : rr (4 * (s - 1) + r) = r ∧ ra (4 * (s - 1) + r) = s := by
  unfold rr ra
  rw [if_neg (by omega), if_neg (by omega)]
  omega
theorem rn_step {D lg d x y s : Nat} {fb : Int32} {fx fx' : Nat → Int32} (hlg : lg ≤ 4) (hd : d < D) (hs : s < 4) (hfx : fx d = fx' d) (h : Rn D lg d x y) : (cl_d D lg fb fx d x s = none ∧ rd_d lg fb fx' d y s = none) ∨ ∃ x' y', cl_d D lg fb fx d x s = some x' ∧ rd_d lg fb fx' d y s = some y' ∧ Rn D lg (d + 1) x' y' := by
  obtain ⟨h1, h2, h3⟩ := h
  unfold cl_d rd_d
  rw [h1, hfx]
  by_cases hc : okX (fx' d) s = true ∧ okF fb (4 * sh x + s) = true
  · rw [if_pos hc]
    by_cases h0 : s = 0
    · rw [if_pos h0, if_pos ⟨hc.1, hc.2, .inl h0⟩, if_pos h0]
      exact .inr ⟨0, 0, rfl, rfl, rfl, Nat.le_refl _, .inl rfl⟩
    · rw [if_neg h0]
      by_cases hl : wk x + 1 ≤ lg
      · have hr : rr y + 1 ≤ lg := by omega
        rw [if_pos hl, if_pos (show okX (fx' d) s = true ∧ okF fb (4 * sh x + s) = true ∧ (s = 0 ∨ rr y + 1 ≤ lg) from ⟨hc.1, hc.2, .inr hr⟩), if_neg h0]
        obtain ⟨q1, q2⟩ := rr_4 (s := s) (r := rr y + 1) h0 (by omega) (by omega)
        refine .inr ⟨_, _, rfl, rfl, ?_⟩
        have q3 : sh (so s (if wk x + 1 + (D - 1 - d) ≤ lg then 1 else wk x + 1)) = s := sh_so hs (by split <;> omega)
        have q4 : wk (so s (if wk x + 1 + (D - 1 - d) ≤ lg then 1 else wk x + 1)) = (if wk x + 1 + (D - 1 - d) ≤ lg then 1 else wk x + 1) := wk_so hs h0 (by split <;> omega)
        refine ⟨by rw [q2, q3], by rw [q1, q4]; split <;> omega, ?_⟩
        rw [q1, q4]
        split
        · right; omega
        · left; omega
      · rw [if_neg hl, if_neg]
        · exact .inl ⟨rfl, rfl⟩
        · rintro ⟨_, _, h4 | h4⟩
          · exact h0 h4
          · omega
  · rw [if_neg hc, if_neg (fun q => hc ⟨q.1, q.2.1⟩)]
    exact .inl ⟨rfl, rfl⟩
theorem dpT3 {δ : Nat → Nat → Nat → Option Nat} {t0 d c : Nat} : dp_T δ t0 (3 * (d + 1)) c = (dp_T δ t0 (3 * d) (c / 64)).bind fun t => (δ (3 * d) t (c / 16 % 4)).bind fun t1 => (δ (3 * d + 1) t1 (c / 4 % 4)).bind fun t2 => δ (3 * d + 2) t2 (c % 4) := by
  show (((dp_T δ t0 (3 * d) (c / 4 / 4 / 4)).bind fun t => δ (3 * d) t (c / 4 / 4 % 4)).bind fun t1 => δ (3 * d + 1) t1 (c / 4 % 4)).bind (fun t2 => δ (3 * d + 2) t2 (c % 4)) = _
  rw [show c / 4 / 4 / 4 = c / 64 by omega, show c / 4 / 4 = c / 16 by omega]
  cases dp_T δ t0 (3 * d) (c / 64) with
  | none => rfl
  | some t =>
    show ((δ (3 * d) t (c / 16 % 4)).bind fun t1 => δ (3 * d + 1) t1 (c / 4 % 4)).bind (fun t2 => δ (3 * d + 2) t2 (c % 4)) = (δ (3 * d) t (c / 16 % 4)).bind _
    cases δ (3 * d) t (c / 16 % 4) <;> rfl
theorem dpK3 {δ : Nat → Nat → Nat → Option Nat} {κ : Nat → Nat → Nat → Int} {t0 d c t t1 t2 : Nat} (h : dp_T δ t0 (3 * d) (c / 64) = some t) (h1 : δ (3 * d) t (c / 16 % 4) = some t1) (h2 : δ (3 * d + 1) t1 (c / 4 % 4) = some t2) : dp_K δ κ t0 (3 * (d + 1)) c = dp_K δ κ t0 (3 * d) (c / 64) + κ (3 * d) t (c / 16 % 4) + κ (3 * d + 1) t1 (c / 4 % 4) + κ (3 * d + 2) t2 (c % 4) := by
  have e1 : c / 4 / 4 / 4 = c / 64 := by omega
  have e2 : c / 4 / 4 % 4 = c / 16 % 4 := by omega
  have a1 : dp_T δ t0 (3 * d + 1) (c / 4 / 4) = some t1 := by
    show (dp_T δ t0 (3 * d) (c / 4 / 4 / 4)).bind _ = _
    rw [e1, h, sb, e2, h1]
  have a2 : dp_T δ t0 (3 * d + 1 + 1) (c / 4) = some t2 := by
    show (dp_T δ t0 (3 * d + 1) (c / 4 / 4)).bind _ = _
    rw [a1, sb, h2]
  have b1 : dp_K δ κ t0 (3 * d + 1) (c / 4 / 4) = dp_K δ κ t0 (3 * d) (c / 64) + κ (3 * d) t (c / 16 % 4) := by
    show dp_K δ κ t0 (3 * d) (c / 4 / 4 / 4) + _ = _
    rw [e1, h, e2]
  have b2 : dp_K δ κ t0 (3 * d + 1 + 1) (c / 4) = dp_K δ κ t0 (3 * d + 1) (c / 4 / 4) + κ (3 * d + 1) t1 (c / 4 % 4) := by
    show dp_K δ κ t0 (3 * d + 1) (c / 4 / 4) + _ = _
    rw [a1]
  have b3 : dp_K δ κ t0 (3 * d + 1 + 1 + 1) c = dp_K δ κ t0 (3 * d + 1 + 1) (c / 4) + κ (3 * d + 2) t2 (c % 4) := by
    show dp_K δ κ t0 (3 * d + 1 + 1) (c / 4) + _ = _
    rw [a2]
  show dp_K δ κ t0 (3 * d + 1 + 1 + 1) c = _
  rw [b3, b2, b1]
theorem shs_cov {nd : Nat → Int32} {d t k : Nat} (h0 : sh (st3 t 0) = k / 16) (h1 : sh (st3 t 1) = k / 4 % 4) (h2 : sh (st3 t 2) = k % 4) : ∀ j, (shs nd d t j = 0) ↔ cov nd d k j = true := by
  intro j
  induction j with
  | zero => exact ⟨fun _ => rfl, fun _ => rfl⟩
  | succ j ih =>
    unfold shs cov
    have e : tm t (j + 1) 3 = (if k / 16 = j + 1 then 1 else 0) + (if k / 4 % 4 = j + 1 then 1 else 0) + (if k % 4 = j + 1 then 1 else 0) := by
      show ((0 + if sh (st3 t 0) = j + 1 then (1 : Int) else 0) + if sh (st3 t 1) = j + 1 then 1 else 0) + (if sh (st3 t 2) = j + 1 then 1 else 0) = _
      rw [h0, h1, h2, Int.zero_add]
    rw [← e, Bool.and_eq_true, ← ih, decide_eq_true_iff]
    generalize tm t (j + 1) 3 = m
    generalize (nd (4 * d + (j + 1))).toInt = q
    by_cases hq : 0 < q - m
    · rw [if_pos hq]
      constructor
      · intro h; omega
      · intro h; omega
    · rw [if_neg hq]
      constructor
      · intro h; omega
      · intro h; omega
