/-! one day of findRoster -/
theorem p_day {fu D d t0 : Nat} {lgN : Nat → Nat} {fbN : Nat → Int32} {fxN scN pcN : Nat → Nat → Int32} {nd : Nat → Int32} {ch : Nat → Nat → Bool} {pl : Int64} {sa : Nat → Int32} {ss k nk : Nat → Int64} (hfu : 2197 < fu) (hD : D ≤ 6) (hd : d < D) (h0 : t0 < 2197) (hl : ∀ n, n < 3 → lgN n ≤ 4) (hsc : ∀ n, n < 3 → Lim 24 99 (scN n)) (hpc : ∀ n, n < 3 → Lim 16 99 (pcN n)) (hnd : Lim 24 3 nd) (hpl : ∀ p, p < 3 * D → Plan pl (36 - 2 * (3 * (p / 3) + p % 3 + 1)) (ch p)) (hS : TInv (tr_d D lgN fbN fxN nd) (tr_k scN pcN ch) t0 (3 * d) k) :
    ∃ a', f_Rs_findRoster_l23 fu pl (mI D) (mI 0) (fbN 0) (mI (lgN 0)) (mI D) (scN 0) (pcN 0) (fxN 0) (mI 1) (fbN 1) (mI (lgN 1)) (mI D) (scN 1) (pcN 1) (fxN 1) (mI 2) (fbN 2) (mI (lgN 2)) (mI D) (scN 2) (pcN 2) (fxN 2) nd (mI d, sa, ss, k, nk) = some (.inl a') ∧ a'.1 = mI (d + 1) ∧ TInv (tr_d D lgN fbN fxN nd) (tr_k scN pcN ch) t0 (3 * (d + 1)) a'.2.2.2.1 := by
  obtain ⟨δ, eδ⟩ : ∃ δ : Nat → Nat → Nat → Option Nat, δ = fun p t s => if p = 3 * d + 2 then tr_r D lgN fbN fxN p t s else tr_d D lgN fbN fxN nd p t s := ⟨_, rfl⟩
  have hb : ∀ p, p < 3 * d + 2 → ∀ t s, δ p t s = tr_d D lgN fbN fxN nd p t s := by
    intro p hp t s
    rw [eδ]
    exact if_neg (by omega)
  have h2 : ∀ t s, δ (3 * d + 2) t s = tr_r D lgN fbN fxN (3 * d + 2) t s := by
    intro t s
    rw [eδ]
    exact if_pos rfl
  have hst : ∀ p c t, dp_T δ t0 p c = some t → t < 2197 := by
    intro p c t h
    refine tt_st h0 (fun p t s t' h ht hs => ?_) h
    rw [eδ] at h
    dsimp only at h
    split at h
    · exact tr_lt hl p t s t' h ht hs
    · exact tr_lt hl p t s t' (tr_of h).1 ht hs
  have hS0 : TInv δ (tr_k scN pcN ch) t0 (3 * d) k := tinv_congr (fun p hp t s => (hb p (by omega) t s).symm) hS
  obtain ⟨sa1, ss1, k1, a1, a2, a3⟩ := p_place (fu := fu) (D := D) (sa := sa) (ss := ss) (nk := nk) hfu hD (show 3 * d < 3 * D by omega) hl hsc hpc (hpl _ (by omega)) (fun t s => by rw [hb _ (by omega), tr_eq (by omega)]) (hst _) hS0
  obtain ⟨sa2, ss2, k2, b1, b2, b3⟩ := p_place (fu := fu) (D := D) (sa := sa1) (ss := ss1) (nk := k) hfu hD (show 3 * d + 1 < 3 * D by omega) hl hsc hpc (hpl _ (by omega)) (fun t s => by rw [hb _ (by omega), tr_eq (by omega)]) (hst _) a3
  obtain ⟨sa3, ss3, k3, c1, c2, c3⟩ := p_place (fu := fu) (D := D) (sa := sa2) (ss := ss2) (nk := k1) hfu hD (show 3 * d + 1 + 1 < 3 * D by omega) hl hsc hpc (hpl _ (by omega)) h2 (hst _) b3
  obtain ⟨k4, d1, d2⟩ := p_drop (fu := fu) hfu (show d < 6 by omega) h0 hl hsc hpc hnd hb h2 c3
  rw [show 3 * d / 3 = d by omega, show 3 * d % 3 = 0 by omega] at a1
  rw [show 3 * d % 3 = 0 by omega] at a2
  rw [show (3 * d + 1) / 3 = d by omega, show (3 * d + 1) % 3 = 1 by omega] at b1
  rw [show (3 * d + 1) % 3 = 1 by omega] at b2
  rw [show (3 * d + 1 + 1) / 3 = d by omega, show (3 * d + 1 + 1) % 3 = 2 by omega] at c1
  rw [show (3 * d + 1 + 1) % 3 = 2 by omega] at c2
  unfold f_Rs_findRoster_l23
  dsimp only
  rw [if_neg (by rw [mI_le (by omega) (by omega)]; omega), a1, sb]
  dsimp only
  rw [show f_Rs_takePlace fu (0 : Int32) sa1 ss1 k nk = some (k1, k) from a2, sb]
  dsimp only
  rw [b1, sb]
  dsimp only
  rw [show f_Rs_takePlace fu (1 : Int32) sa2 ss2 k1 k = some (k2, k1) from b2, sb]
  dsimp only
  rw [c1, sb]
  dsimp only
  rw [show f_Rs_takePlace fu (2 : Int32) sa3 ss3 k2 k1 = some (k3, k2) from c2, sb]
  dsimp only
  rw [d1, sb]
  exact ⟨_, rfl, mI_1 d, d2⟩
