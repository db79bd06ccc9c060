/-! the reference's prepare: which triples of shifts cover the day -/
theorem q_304 {d k j : Nat} {en t0 t1 : Int32} {a : Int} {nd : Nat → Int32} (b : Bool) (hd : d < 6) (hj : j < 4) (hk : k < 64) (hnd : Lim 24 3 nd) (ha : 0 ≤ a) (ha' : a ≤ 2) (ht : t1 + t0 = iI a) (he : en = bI b) : f_Wm_prepare_b304 (mI d) (mI k) en (mI j) t0 t1 nd = some (.inl (bI (b && decide ((nd (4 * d + j)).toInt ≤ a + (if k % 4 = j then 1 else 0))), mI (j + 1))) := by
  have e3 : mI k - mI k / mI 4 * mI 4 = mI (k % 4) := by
    rw [mI_div (by omega) (by omega), mI_mul, mI_sub (by omega)]
    congr 1
    omega
  have b1 := hnd (4 * d + j) (by omega)
  have h318 : ∀ c : Int, 0 ≤ c → c ≤ 1 → f_Wm_prepare_b318 (mI d) en (mI j) (iI c) (t1 + t0) nd = some (.inl (bI (b && decide ((nd (4 * d + j)).toInt ≤ a + c)), mI (j + 1))) := by
    intro c hc hc'
    unfold f_Wm_prepare_b318 f_Wm_prepare_b345 f_Wm_prepare_b346
    rw [he, ht]
    cases b with
    | false => rw [if_pos (show bI false = 0 from rfl), mI_1]; rfl
    | true =>
      rw [if_neg (show ¬ bI true = 0 by decide)]
      show ((gi 24 nd ((mI 4 * mI d) + mI j)).bind _) = _
      rw [mI_mul, mI_add, gi_n (by omega) (by omega), sb, iI_add, mI_1, Bool.true_and]
      have el : (iI (a + c) < nd (4 * d + j)) ↔ a + c < (nd (4 * d + j)).toInt := by
        rw [Int32.lt_iff_toInt_lt, iI_toInt (by omega) (by omega)]
      by_cases h : a + c < (nd (4 * d + j)).toInt
      · rw [if_pos (el.2 h), decide_eq_false (by omega)]; rfl
      · rw [if_neg (fun q => h (el.1 q)), decide_eq_true (by omega)]; rfl
  unfold f_Wm_prepare_b304
  show (if (mI k - mI k / mI 4 * mI 4) = mI j then f_Wm_prepare_b318 (mI d) en (mI j) (iI 1) (t1 + t0) nd else f_Wm_prepare_b318 (mI d) en (mI j) (iI 0) (t1 + t0) nd) = _
  rw [e3]
  by_cases h : k % 4 = j
  · rw [if_pos (by rw [h]), h318 1 (by omega) (by omega), if_pos h]
  · rw [if_neg (fun q => h ((mI_inj (by omega) (by omega)).1 q)), h318 0 (by omega) (by omega), if_neg h]
