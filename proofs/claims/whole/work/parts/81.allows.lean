/-! allowsLine: the line that a key's digits tell -/
def lc (z : Int) (n : Nat) : Nat → Nat
  | 0 => 0
  | d + 1 => 4 * lc z n d + dg z d n
theorem dg_lt (z : Int) (d n : Nat) : dg z d n < 4 := by unfold dg; omega
theorem lc_T {δ : Nat → Nat → Nat → Option Nat} {t0 n : Nat} {z : Int} (d : Nat) : dp_T δ t0 (d + 1) (lc z n (d + 1)) = (dp_T δ t0 d (lc z n d)).bind fun t => δ d t (dg z d n) := by
  have h := dg_lt z d n
  show (dp_T δ t0 d ((4 * lc z n d + dg z d n) / 4)).bind (fun t => δ d t ((4 * lc z n d + dg z d n) % 4)) = _
  rw [show (4 * lc z n d + dg z d n) / 4 = lc z n d by omega, show (4 * lc z n d + dg z d n) % 4 = dg z d n by omega]
theorem lc_none {δ : Nat → Nat → Nat → Option Nat} {t0 n d : Nat} {z : Int} (h : dp_T δ t0 d (lc z n d) = none) : ∀ e, dp_T δ t0 (d + e) (lc z n (d + e)) = none := by
  intro e
  induction e with
  | zero => exact h
  | succ e ih =>
    show dp_T δ t0 (d + e + 1) (lc z n (d + e + 1)) = none
    rw [lc_T, ih]
    rfl
theorem p_allowsLine {fu D lg n t0 : Nat} {fb : Int32} {fx : Nat → Int32} {z : Int} (hfu : 6 < fu) (hD : D ≤ 6) (hn : n < 3) (hl : lg ≤ 4) (ht0 : t0 < 13) (h1 : -2 ^ 63 ≤ z) (h2 : z < 2 ^ 63) : f_Nu_allowsLine fu (jJ z) (mI n) fb (mI lg) (mI t0) (mI D) fx = some (bI (dp_T (cl_d D lg fb fx) t0 D (lc z n D)).isSome) := by
  unfold f_Nu_allowsLine
  obtain ⟨r, e1, e2⟩ := iter_inv (b := f_Nu_allowsLine_l8 (jJ z) (mI n) fb (mI lg) (mI D) fx) (fun (a : Int32 × Int32) => ∃ d, d ≤ D ∧ a = (enc (dp_T (cl_d D lg fb fx) t0 d (lc z n d)), mI d)) (fun a => D - a.2.toNatClampNeg) (P := fun r => r.1 = enc (dp_T (cl_d D lg fb fx) t0 D (lc z n D)))
    (by
      rintro a ⟨d, hd, rfl⟩
      unfold f_Nu_allowsLine_l8
      dsimp only
      by_cases hdD : d = D
      · subst hdD
        right
        rw [if_pos (by rw [mI_le (by omega) (by omega)]; omega)]
        exact ⟨_, rfl, rfl⟩
      · rw [if_neg (by rw [mI_le (by omega) (by omega)]; omega)]
        cases hT : dp_T (cl_d D lg fb fx) t0 d (lc z n d) with
        | none =>
          right
          rw [if_pos (show enc none = -1 from rfl)]
          refine ⟨_, rfl, ?_⟩
          have := lc_none hT (D - d)
          rw [show d + (D - d) = D by omega] at this
          rw [this]
        | some t =>
          left
          have ht : t < 13 := tt_st ht0 (cl_lt hl) hT
          rw [show enc (some t) = mI t from rfl, if_neg (mI_ne_neg (by omega)), p_placeBit hn (by omega), sb, p_shiftAt (by omega) h1 h2, sb]
          rw [show (z / 2 ^ (36 - 2 * (3 * d + n + 1)) % 4).toNat = dg z d n from rfl, p_stateAfter hD (by omega) ht (dg_lt z d n) hl, sb, mI_1]
          refine ⟨_, rfl, ⟨d + 1, by omega, by rw [lc_T, hT, sb]⟩, ?_⟩
          show D - (mI (d + 1)).toNatClampNeg < D - (mI d).toNatClampNeg
          rw [Int32.toNatClampNeg_ofNat_of_lt (by omega), Int32.toNatClampNeg_ofNat_of_lt (by omega)]
          omega)
    fu (mI t0, mI 0) (by show D - (mI 0).toNatClampNeg < fu; omega) ⟨0, Nat.zero_le _, rfl⟩
  show (iter _ fu (mI t0, mI 0)).bind _ = _
  rw [e1, sb, e2]
  unfold f_Nu_allowsLine_b49
  cases hT : dp_T (cl_d D lg fb fx) t0 D (lc z n D) with
  | none => rfl
  | some t =>
    have ht : t < 13 := tt_st ht0 (cl_lt hl) hT
    rw [if_neg (show ¬ enc (some t) = -1 from mI_ne_neg (by omega))]
    rfl
