/-! the reference's prepare, all of it -/
theorem q_269 {d k j : Nat} {nd : Nat → Int32} (b : Bool) (hd : d < 6) (hj : j < 4) (hk : k < 64) (hnd : Lim 24 3 nd) : f_Wm_prepare_l269 (mI d) (mI k) nd (bI b, mI j) = some (.inl (bI (b && decide ((nd (4 * d + j)).toInt ≤ (if k / 16 = j then 1 else 0) + (if k / 4 % 4 = j then 1 else 0) + (if k % 4 = j then 1 else 0))), mI (j + 1))) := by
  have e3 : (mI k / mI 4) - (mI k / mI 4) / mI 4 * mI 4 = mI (k / 4 % 4) := by
    rw [mI_div (by omega) (by omega), mI_div (by omega) (by omega), mI_mul, mI_sub (by omega)]
    congr 1
    omega
  have h289 : ∀ a : Int, 0 ≤ a → a ≤ 1 → f_Wm_prepare_b289 (mI d) (mI k) (bI b) (mI j) (iI a) nd = some (.inl (bI (b && decide ((nd (4 * d + j)).toInt ≤ a + (if k / 4 % 4 = j then 1 else 0) + (if k % 4 = j then 1 else 0))), mI (j + 1))) := by
    intro a ha ha'
    unfold f_Wm_prepare_b289
    show (if ((mI k / mI 4) - (mI k / mI 4) / mI 4 * mI 4) = mI j then f_Wm_prepare_b304 (mI d) (mI k) (bI b) (mI j) (iI 1) (iI a) nd else f_Wm_prepare_b304 (mI d) (mI k) (bI b) (mI j) (iI 0) (iI a) nd) = _
    rw [e3]
    by_cases h : k / 4 % 4 = j
    · rw [if_pos (by rw [h]), q_304 (a := a + 1) b hd hj hk hnd (by omega) (by omega) (iI_add a 1) rfl, if_pos h]
    · rw [if_neg (fun q => h ((mI_inj (by omega) (by omega)).1 q)), q_304 (a := a + 0) b hd hj hk hnd (by omega) (by omega) (iI_add a 0) rfl, if_neg h]
  unfold f_Wm_prepare_l269
  dsimp only
  rw [if_neg (show ¬ (4 : Int32) ≤ mI j from fun h => absurd ((mI_le (a := 4) (by omega) (by omega)).1 h) (by omega))]
  show (if (mI k / mI 16) = mI j then f_Wm_prepare_b289 (mI d) (mI k) (bI b) (mI j) (iI 1) nd else f_Wm_prepare_b289 (mI d) (mI k) (bI b) (mI j) (iI 0) nd) = _
  rw [mI_div (by omega) (by omega)]
  by_cases h : k / 16 = j
  · rw [if_pos (by rw [h]), h289 1 (by omega) (by omega), if_pos h]
  · rw [if_neg (fun q => h ((mI_inj (by omega) (by omega)).1 q)), h289 0 (by omega) (by omega), if_neg h]
theorem q_cov {fu d k : Nat} {nd : Nat → Int32} (hfu : 4 < fu) (hd : d < 6) (hk : k < 64) (hnd : Lim 24 3 nd) : ∃ r, iter (f_Wm_prepare_l269 (mI d) (mI k) nd) fu (1, mI 1) = some r ∧ r.1 = bI (cov nd d k 3) := by
  refine iter_for (N := 3) (fun j (a : Int32 × Int32) => a = (bI (cov nd d k j), mI (j + 1))) (P := fun (r : Int32 × Int32) => r.1 = bI (cov nd d k 3)) ?_ ?_ fu 0 (1, mI 1) (by omega) (by omega) rfl
  · rintro j a hj rfl
    rw [q_269 (cov nd d k j) hd (by omega) hk hnd]
    exact ⟨_, rfl, rfl⟩
  · rintro a rfl
    refine ⟨(bI (cov nd d k 3), mI 4), ?_, rfl⟩
    unfold f_Wm_prepare_l269
    dsimp only
    rw [if_pos (show (4 : Int32) ≤ mI (3 + 1) from (mI_le (a := 4) (by omega) (by omega)).2 (by omega))]
theorem nar_bI (b : Bool) : vp_nar .boolean (bI b) = bI b := by cases b <;> decide
theorem p_prepare {fu d : Nat} {lgN : Nat → Nat} {rep : Int32} {fbA lgA nd co pa fi pl af we cv : Nat → Int32} (hfu : 156 < fu) (hd : d < 6) (hlg : ∀ n, n < 3 → lgN n ≤ 4) (hla : ∀ n, n < 3 → lgA n = mI (lgN n)) (hnd : Lim 24 3 nd) :
    ∃ af' we' cv', f_Wm_prepare fu (mI d) rep fbA lgA nd co pa fi pl af we cv = some (af', we', cv') ∧ Prep lgN fbA fi co pa pl nd rep d af' we' cv' := by
  obtain ⟨r, h1, h2⟩ := q_l2 (rep := rep) (fbA := fbA) (co := co) (pa := pa) (fi := fi) (pl := pl) (af := af) (we := we) hfu hd hlg hla
  obtain ⟨r2, h3, h4⟩ := iter_for (N := 64) (b := f_Wm_prepare_l258 fu (mI d) nd) (fun k (a : Int32 × (Nat → Int32)) => a.1 = mI k ∧ ∀ j, j < k → a.2 j = bI (cov nd d j 3)) (P := fun r => ∀ j, j < 64 → r.2 j = bI (cov nd d j 3))
    (by
      rintro k ⟨i, g⟩ hk ⟨rfl, hi⟩
      obtain ⟨q, q1, q2⟩ := q_cov (fu := fu) (by omega) hd hk hnd
      unfold f_Wm_prepare_l258
      dsimp only
      rw [if_neg (show ¬ (64 : Int32) ≤ mI k from fun h => absurd ((mI_le (a := 64) (by omega) (by omega)).1 h) (by omega))]
      show ∃ a', ((iter (f_Wm_prepare_l269 (mI d) (mI k) nd) fu (1, mI 1)).bind _) = _ ∧ _
      rw [q1, sb, sz_n hk (by omega), sb, mI_1, q2, nar_bI]
      refine ⟨_, rfl, rfl, fun j hj => ?_⟩
      dsimp only
      rw [upd_at]
      by_cases e : j = k
      · rw [if_pos e, e]
      · rw [if_neg e]; exact hi j (by omega))
    (by
      rintro ⟨i, g⟩ ⟨rfl, hi⟩
      refine ⟨(mI 64, g), ?_, hi⟩
      unfold f_Wm_prepare_l258
      dsimp only
      rw [if_pos (show (64 : Int32) ≤ mI 64 from (mI_le (a := 64) (by omega) (by omega)).2 (by omega))])
    fu 0 (mI 0, cv) (by omega) (by omega) ⟨rfl, fun j hj => by omega⟩
  refine ⟨r.2.1, r.2.2, r2.2, ?_, h2, h4⟩
  unfold f_Wm_prepare
  show (iter _ fu (mI 0, af, we)).bind _ = _
  rw [h1, sb]
  show (iter _ fu (mI 0, cv)).bind _ = _
  rw [h3, sb]
