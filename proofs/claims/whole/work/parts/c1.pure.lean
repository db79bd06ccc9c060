/-! the pure law says true of every script -/
theorem law_step {fu L i r : Nat} {xs : Nat → Int32} {gx : GX} {gm : GM} {q3 : Nat → Int64} (hfu : 4096 < fu) (hL5 : 5 ≤ L) (hi : i + 5 ≤ L) (hL : L < 2 ^ 31) (hr : r + 12 < 10000) (h : Rel gx gm r) : ∃ gx' gm' q3' r', f_La_law_l23 fu L xs (mI i, gx, gm, q3) = some (.inl (mI (i + 5), gx', gm', q3')) ∧ Rel gx' gm' r' ∧ r' ≤ r + 12 := by
  unfold f_La_law_l23 f_La_law_b
  dsimp only
  have e5 : Int32.ofNat L - 5 = mI (L - 5) := mI_sub (b := 5) hL5
  rw [e5, if_neg (fun q => absurd ((mI_lt (by omega) (by omega)).1 q) (by omega)), gi_n (by omega) hL, sb]
  generalize xs i = v
  by_cases h0 : (v &&& 31) = 0
  · rw [if_pos h0]; exact k0 hfu hi hL hr h
  rw [if_neg h0]
  by_cases h1 : (v &&& 31) = 1
  · rw [if_pos h1]; exact k1 hfu hi hL hr h
  rw [if_neg h1]
  by_cases h2 : (v &&& 31) = 2
  · rw [if_pos h2]; exact k2 hfu hi hL hr h
  rw [if_neg h2]
  by_cases h3 : (v &&& 31) = 3
  · rw [if_pos h3]; exact k3 hfu hi hL hr h
  rw [if_neg h3]
  by_cases h4 : (v &&& 31) = 4
  · rw [if_pos h4]; exact k4 hfu hi hL hr h
  rw [if_neg h4]
  by_cases h5 : (v &&& 31) = 5
  · rw [if_pos h5]; exact k5 hfu hi hL hr h
  rw [if_neg h5]
  by_cases h6 : (v &&& 31) = 6
  · rw [if_pos h6]; exact k6 hfu hi hL hr h
  rw [if_neg h6]
  by_cases h7 : (v &&& 31) = 7
  · rw [if_pos h7]; exact k7 hfu hi hL hr h
  rw [if_neg h7]
  by_cases h8 : (v &&& 31) = 8
  · rw [if_pos h8]; exact k8 hfu hi hL hr h
  rw [if_neg h8]
  by_cases h9 : (v &&& 31) = 9
  · rw [if_pos h9]; exact k9 hfu hi hL hr h
  rw [if_neg h9]
  by_cases h10 : (v &&& 31) = 10
  · rw [if_pos h10]; exact k10 hfu hi hL hr h
  rw [if_neg h10]
  by_cases h11 : (v &&& 31) = 11
  · rw [if_pos h11]; exact k11 hfu hi hL hr h
  rw [if_neg h11]
  by_cases h12 : (v &&& 31) = 12
  · rw [if_pos h12]; exact k12 hfu hi hL hr h
  rw [if_neg h12]
  by_cases h13 : (v &&& 31) = 13
  · rw [if_pos h13]; exact k13 hfu hi hL hr h
  rw [if_neg h13]
  by_cases h14 : (v &&& 31) = 14
  · rw [if_pos h14]; exact k14 hfu hi hL hr h
  rw [if_neg h14]
  by_cases h15 : (v &&& 31) = 15
  · rw [if_pos h15]; exact k15 hfu hi hL hr h
  rw [if_neg h15]
  by_cases h16 : (v &&& 31) = 16
  · rw [if_pos h16]; exact k16 hfu hi hL hr h
  rw [if_neg h16]
  by_cases h17 : (v &&& 31) = 17
  · rw [if_pos h17]; exact k17 hfu hi hL hr h
  rw [if_neg h17]
  by_cases h18 : (v &&& 31) = 18
  · rw [if_pos h18]; exact k18 hfu hi hL hr h
  rw [if_neg h18]
  exact ⟨gx, gm, q3, r, by rw [show mI i + 5 = mI (i + 5) from mI_add i 5], h, by omega⟩
theorem law_true {fu L : Nat} {xs : Nat → Int32} {gx : GX} {gm : GM} {q3 : Nat → Int64} (hfu : 4096 < fu) (hL : L ≤ 2560) (h : Rel gx gm 0) : ∃ v, iter (f_La_law_l23 fu L xs) 1000 (mI 0, gx, gm, q3) = some v := by
  by_cases hL5 : 5 ≤ L
  · obtain ⟨v, h1, _⟩ := iter_for (N := L / 5) (b := f_La_law_l23 fu L xs) (fun j (s : Int32 × GX × GM × (Nat → Int64)) => s.1 = mI (5 * j) ∧ ∃ r, r ≤ 12 * j ∧ Rel s.2.1 s.2.2.1 r) (P := fun _ => True)
      (by
        rintro j ⟨s1, gx, gm, q3⟩ hj ⟨rfl, r, hr, hR⟩
        obtain ⟨gx', gm', q3', r', g1, g2, g3⟩ := law_step (i := 5 * j) (xs := xs) (q3 := q3) hfu hL5 (by omega) (by omega) (by omega) hR
        exact ⟨_, g1, rfl, r', by omega, g2⟩)
      (by
        rintro ⟨s1, gx, gm, q3⟩ ⟨rfl, r, hr, hR⟩
        refine ⟨(mI (5 * (L / 5)), gx, gm, q3), ?_, trivial⟩
        unfold f_La_law_l23 f_La_law_b
        dsimp only
        have e5 : Int32.ofNat L - 5 = mI (L - 5) := mI_sub (b := 5) hL5
        rw [e5, if_pos ((mI_lt (by omega) (by omega)).2 (by omega))])
      1000 0 (mI 0, gx, gm, q3) (by omega) (by omega) ⟨rfl, 0, by omega, h⟩
    exact ⟨v, h1⟩
  · obtain ⟨v, h1, _⟩ := iter_inv (b := f_La_law_l23 fu L xs) (fun s => s = (mI 0, gx, gm, q3)) (fun _ => 0) (P := fun _ => True)
      (by
        rintro _ rfl
        right
        refine ⟨(mI 0, gx, gm, q3), ?_, trivial⟩
        unfold f_La_law_l23 f_La_law_b
        dsimp only
        have e5 : Int32.ofNat L - 5 = iI ((L : Int) - 5) := by
          show mI L - iI 5 = _
          rw [mI_iI, iI_sub]
        rw [e5, if_pos]
        show iI _ < iI 0
        rw [iI_lt (by omega) (by omega) (by omega) (by omega)]
        omega)
      1000 (mI 0, gx, gm, q3) (by omega) rfl
    exact ⟨v, h1⟩
