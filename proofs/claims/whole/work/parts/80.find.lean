/-! findRoster: the least key of all rosters -/
theorem p_startTriple {a b c : Nat} : f_Rs_startTriple (mI a) (mI b) (mI c) = some (mI (169 * a + 13 * b + c)) := by
  unfold f_Rs_startTriple
  rw [show f_Rs_strideOf (0 : Int32) = some (mI 169) from rfl, sb, show f_Rs_strideOf (1 : Int32) = some (mI 13) from rfl, sb, show f_Rs_strideOf (2 : Int32) = some (mI 1) from rfl, sb]
  show some (((mI 0 + mI 169 * mI a) + mI 13 * mI b) + mI 1 * mI c) = _
  rw [mI_mul, mI_mul, mI_mul, mI_add, mI_add, mI_add, Nat.zero_add, Nat.one_mul]
theorem p_findRoster {fu D a0 b0 c0 : Nat} {lgN : Nat → Nat} {fbN : Nat → Int32} {fxN scN pcN : Nat → Nat → Int32} {nd : Nat → Int32} {ch : Nat → Nat → Bool} {pl : Int64} {sa : Nat → Int32} {ss k nk : Nat → Int64} (hfu : 2197 < fu) (hD : D ≤ 6) (ha : a0 < 13) (hb : b0 < 13) (hc : c0 < 13) (hl : ∀ n, n < 3 → lgN n ≤ 4) (hsc : ∀ n, n < 3 → Lim 24 99 (scN n)) (hpc : ∀ n, n < 3 → Lim 16 99 (pcN n)) (hnd : Lim 24 3 nd) (hpl : ∀ p, p < 3 * D → Plan pl (36 - 2 * (3 * (p / 3) + p % 3 + 1)) (ch p)) :
    ∃ z sa' ss' k' nk', f_Rs_findRoster fu pl sa ss k nk (mI D) (mI 0) (fbN 0) (mI (lgN 0)) (mI a0) (mI D) (scN 0) (pcN 0) (fxN 0) (mI 1) (fbN 1) (mI (lgN 1)) (mI b0) (mI D) (scN 1) (pcN 1) (fxN 1) (mI 2) (fbN 2) (mI (lgN 2)) (mI c0) (mI D) (scN 2) (pcN 2) (fxN 2) nd = some (jJ z, sa', ss', k', nk') ∧ IsMin (fun c => (dp_T (tr_d D lgN fbN fxN nd) (169 * a0 + 13 * b0 + c0) (3 * D) c).isSome) (dp_K (tr_d D lgN fbN fxN nd) (tr_k scN pcN ch) (169 * a0 + 13 * b0 + c0) (3 * D)) z := by
  have hN : NO = 2 ^ 62 := by decide
  have h0 : 169 * a0 + 13 * b0 + c0 < 2197 := by omega
  unfold f_Rs_findRoster
  obtain ⟨g1, a1, a2, _⟩ := p_fill_J (fu := fu) (n := 2197) (x := (4611686018427387904 : Int64)) (f := k) (by omega) hfu
  rw [a1, sb, p_startTriple, sb, sl_n h0 (by omega), sb]
  generalize 169 * a0 + 13 * b0 + c0 = t0 at *
  have hS0 : TInv (tr_d D lgN fbN fxN nd) (tr_k scN pcN ch) t0 0 (vp_updL g1 t0 0) := by
    intro t ht
    rw [updL_at]
    by_cases e : t = t0
    · subst e
      rw [if_pos rfl]
      exact ⟨0, rfl, .inr ⟨0, by simp [dp_B, dp_T], rfl, fun _ _ => Int.le_refl _⟩⟩
    · rw [if_neg e, a2 t ht]
      refine ⟨NO, NO_jJ, isMin_none (fun c => ?_)⟩
      unfold dp_B dp_T
      split
      · simp; omega
      · simp
  obtain ⟨r, h1, h2⟩ := iter_for (N := D) (b := f_Rs_findRoster_l23 fu pl (mI D) (mI 0) (fbN 0) (mI (lgN 0)) (mI D) (scN 0) (pcN 0) (fxN 0) (mI 1) (fbN 1) (mI (lgN 1)) (mI D) (scN 1) (pcN 1) (fxN 1) (mI 2) (fbN 2) (mI (lgN 2)) (mI D) (scN 2) (pcN 2) (fxN 2) nd) (fun d (a : Int32 × (Nat → Int32) × (Nat → Int64) × (Nat → Int64) × (Nat → Int64)) => a.1 = mI d ∧ TInv (tr_d D lgN fbN fxN nd) (tr_k scN pcN ch) t0 (3 * d) a.2.2.2.1) (P := fun r => TInv (tr_d D lgN fbN fxN nd) (tr_k scN pcN ch) t0 (3 * D) r.2.2.2.1)
    (by
      rintro d ⟨i, sa, ss, k, nk⟩ hd ⟨rfl, hS⟩
      exact p_day hfu hD hd h0 hl hsc hpc hnd hpl hS)
    (by
      rintro ⟨i, sa, ss, k, nk⟩ ⟨rfl, hS⟩
      refine ⟨(mI D, sa, ss, k, nk), ?_, hS⟩
      unfold f_Rs_findRoster_l23
      dsimp only
      rw [if_pos (by rw [mI_le (by omega) (by omega)]; omega)])
    fu 0 (mI 0, sa, ss, vp_updL g1 t0 0, nk) (by omega) (by omega) ⟨rfl, hS0⟩
  show ∃ z sa' ss' k' nk', ((iter _ fu (mI 0, _, _, _, _)).bind _) = _ ∧ _
  rw [h1, sb]
  obtain ⟨z, h3, h4⟩ := p_leastOf (fu := fu) (m := 2197) (f := r.2.2.2.1) (L := 2 ^ 60) (by omega) hfu (tr_K_bd hsc hpc (3 * D) (by omega)) (by omega) h2
  rw [h3, sb]
  exact ⟨z, _, _, _, _, rfl, isMin_congr (fun c => dp_any (fun c t h => tri_lt hl h0 h) c) (fun _ _ => rfl) h4⟩
