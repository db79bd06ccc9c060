/-! prices: their worth at the needs, how they grow, how they move -/
theorem i_of (x : Int32) : x = iI x.toInt := (Int32.ofInt_toInt x).symm
theorem mI_ne0 {a : Nat} (h : 0 < a) (h2 : a < 2 ^ 31) : ¬ mI a = 0 := fun q => absurd ((mI_inj (b := 0) h2 (by omega)).1 q) (by omega)
def pn (q nd : Nat → Int32) : Nat → Int
  | 0 => 0
  | k + 1 => pn q nd k + (q k).toInt * (nd k).toInt
theorem mul_bd {a b : Int} {A B : Int} (h1 : 0 ≤ a) (h2 : a ≤ A) (h3 : 0 ≤ b) (h4 : b ≤ B) : 0 ≤ a * b ∧ a * b ≤ A * B := ⟨Int.mul_nonneg h1 h3, Int.mul_le_mul h2 h4 h3 (by omega)⟩
theorem pn_bd {q nd : Nat → Int32} (hq : Lim 24 999 q) (hn : Lim 24 3 nd) : ∀ k, k ≤ 24 → 0 ≤ pn q nd k ∧ pn q nd k ≤ 2997 * k := by
  intro k
  induction k with
  | zero => intro _; exact ⟨Int.le_refl _, by show (0 : Int) ≤ _; omega⟩
  | succ k ih =>
    intro hk
    have h1 := ih (by omega)
    have h2 := hq k (by omega)
    have h3 := hn k (by omega)
    have h4 := mul_bd h2.1 h2.2 h3.1 h3.2
    unfold pn
    omega
theorem pn_congr {q q' nd nd' : Nat → Int32} (h1 : ∀ k, k < 24 → q k = q' k) (h2 : ∀ k, k < 24 → nd k = nd' k) : ∀ k, k ≤ 24 → pn q nd k = pn q' nd' k := by
  intro k
  induction k with
  | zero => intro _; rfl
  | succ k ih =>
    intro hk
    unfold pn
    rw [ih (by omega), h1 k (by omega), h2 k (by omega)]
theorem pn_stop {q nd : Nat → Int32} {m : Nat} (h : ∀ k, k < 24 → m ≤ k → q k = 0) : ∀ k, m + k ≤ 24 → pn q nd (m + k) = pn q nd m := by
  intro k
  induction k with
  | zero => intro _; rfl
  | succ k ih =>
    intro hk
    show pn q nd (m + k) + (q (m + k)).toInt * _ = _
    rw [ih (by omega), h (m + k) (by omega) (by omega)]
    have e : (0 : Int32).toInt = 0 := by decide
    rw [e, Int.zero_mul, Int.add_zero]
theorem p_priceOfNeeds {fu : Nat} {q nd : Nat → Int32} (hfu : 24 < fu) : f_Pr_priceOfNeeds fu q nd = some (iI (pn q nd 24)) := by
  obtain ⟨r, h1, h2⟩ := iter_for (N := 24) (b := f_Pr_priceOfNeeds_l4 q nd) (fun k (s : Int32 × Int32) => s = (iI (pn q nd k), mI k)) (P := fun (r : Int32 × Int32) => r.1 = iI (pn q nd 24))
    (by
      rintro k _ hk rfl
      unfold f_Pr_priceOfNeeds_l4
      dsimp only
      rw [if_neg (show ¬ (24 : Int32) ≤ mI k from fun q => absurd ((mI_le (a := 24) (by omega) (by omega)).1 q) (by omega)), gi_n hk (by omega), sb, gi_n hk (by omega), sb, mI_1]
      refine ⟨_, rfl, ?_⟩
      conv => lhs; rw [i_of (q k), i_of (nd k)]
      rw [iI_mul, iI_add]; rfl)
    (by
      rintro _ rfl
      refine ⟨(iI (pn q nd 24), mI 24), ?_, rfl⟩
      unfold f_Pr_priceOfNeeds_l4
      dsimp only
      rw [if_pos (show (24 : Int32) ≤ mI 24 from (mI_le (a := 24) (by omega) (by omega)).2 (by omega))])
    fu 0 (iI 0, mI 0) (by omega) (by omega) rfl
  unfold f_Pr_priceOfNeeds
  show (iter _ fu (iI 0, mI 0)).bind _ = _
  rw [h1, sb, h2]
theorem q_r102 {fu D : Nat} {q nd : Nat → Int32} {S : Int} (hfu : 24 < fu) (hD : D ≤ 6) : ∃ r, iter (f_Wm_round_l102 (mI D) nd q) fu (iI S, mI 0) = some r ∧ r.1 = iI (S + pn q nd (4 * D)) := by
  have e4 : 4 * mI D = mI (4 * D) := mI_mul 4 D
  refine iter_for (N := 4 * D) (fun k (s : Int32 × Int32) => s = (iI (S + pn q nd k), mI k)) (P := fun (r : Int32 × Int32) => r.1 = iI (S + pn q nd (4 * D))) ?_ ?_ fu 0 (iI S, mI 0) (by omega) (by omega) (by show (iI S, mI 0) = (iI (S + 0), mI 0); rw [Int.add_zero])
  · rintro k _ hk rfl
    unfold f_Wm_round_l102
    dsimp only
    rw [e4, if_neg (show ¬ mI (4 * D) ≤ mI k from fun q => absurd ((mI_le (by omega) (by omega)).1 q) (by omega)), gi_n (by omega) (by omega), sb, gi_n (by omega) (by omega), sb, mI_1]
    refine ⟨_, rfl, ?_⟩
    conv => lhs; rw [i_of (q k), i_of (nd k)]
    rw [iI_mul, iI_add, Int.add_assoc]; rfl
  · rintro _ rfl
    refine ⟨(iI (S + pn q nd (4 * D)), mI (4 * D)), ?_, rfl⟩
    unfold f_Wm_round_l102
    dsimp only
    rw [e4, if_pos (show mI (4 * D) ≤ mI (4 * D) from (mI_le (by omega) (by omega)).2 (by omega))]
def gr (r : Nat) : Nat := if r < 16 then 16 / (r + 1) else 1
theorem gr_bd (r : Nat) : 1 ≤ gr r ∧ gr r ≤ 16 := by
  unfold gr
  split
  · rename_i h
    have : r = 0 ∨ r = 1 ∨ r = 2 ∨ r = 3 ∨ r = 4 ∨ r = 5 ∨ r = 6 ∨ r = 7 ∨ r = 8 ∨ r = 9 ∨ r = 10 ∨ r = 11 ∨ r = 12 ∨ r = 13 ∨ r = 14 ∨ r = 15 := by omega
    rcases this with rfl | rfl | rfl | rfl | rfl | rfl | rfl | rfl | rfl | rfl | rfl | rfl | rfl | rfl | rfl | rfl <;> decide
  · omega
def m16 (r : Nat) : Nat := if r < 16 then r else 16
theorem p_nextGrowth (r : Nat) : f_Pr_nextGrowth (mI (m16 r)) = some (mI (gr r), mI (m16 (r + 1))) := by
  unfold f_Pr_nextGrowth m16 gr
  by_cases h : r < 16
  · rw [if_pos h, if_pos h, if_pos (show mI r < 16 from (mI_lt (b := 16) (by omega) (by omega)).2 h), mI_1, if_neg (mI_ne0 (by omega) (by omega))]
    have e : 16 / mI (r + 1) = mI (16 / (r + 1)) := mI_div (a := 16) (by omega) (by omega)
    rw [e]
    congr 2
    congr 1
    split <;> omega
  · rw [if_neg h, if_neg h, if_neg (by decide), if_neg (by omega)]; rfl
def clp (v : Int) : Int := if v < 0 then 0 else if v ≤ 999 then v else 999
theorem clp_bd (v : Int) : 0 ≤ clp v ∧ clp v ≤ 999 := by unfold clp; split; omega; split <;> omega
theorem clp_c {v : Int} (h1 : -2 ^ 31 ≤ v) (h2 : v < 2 ^ 31) : (if 0 < (if iI v < 999 then iI v else 999) then (if iI v < 999 then iI v else 999) else 0) = iI (clp v) := by
  have e : (if iI v < 999 then iI v else 999) = iI (if v < 999 then v else 999) := by
    have : (iI v < 999) ↔ v < 999 := iI_lt (b := 999) h1 h2 (by omega) (by omega)
    by_cases h : v < 999
    · rw [if_pos (this.2 h), if_pos h]
    · rw [if_neg (fun q => h (this.1 q)), if_neg h]; rfl
  rw [e]
  unfold clp
  have e2 : (0 < iI (if v < 999 then v else 999)) ↔ 0 < (if v < 999 then v else 999) := iI_lt (a := 0) (by omega) (by omega) (by split <;> omega) (by split <;> omega)
  by_cases h : 0 < (if v < 999 then v else 999)
  · rw [if_pos (e2.2 h)]
    congr 1
    split at h <;> (split <;> (first | omega | (split <;> omega)))
  · rw [if_neg (fun q => h (e2.1 q))]
    show iI 0 = _
    congr 1
    split at h <;> (split <;> (first | omega | (split <;> omega)))
def MV (q nd : Nat → Int32) (g : Nat) (cn : Nat → Int) (K : Nat) (f : Nat → Int32) : Prop := ∀ k, k < 24 → f k = if k < K ∧ k % 4 ≠ 0 then iI (clp ((q k).toInt + g * ((nd k).toInt - cn k))) else q k
theorem mv_bd {q nd : Nat → Int32} {g : Nat} {c : Int} {k : Nat} (hk : k < 24) (hq : Lim 24 999 q) (hn : Lim 24 3 nd) (hg : g ≤ 16) (hc : 0 ≤ c ∧ c ≤ 3) : -2 ^ 31 ≤ (q k).toInt + g * ((nd k).toInt - c) ∧ (q k).toInt + g * ((nd k).toInt - c) < 2 ^ 31 := by
  have h1 := hq k hk
  have h2 := hn k hk
  have h3 : -48 ≤ (g : Int) * ((nd k).toInt - c) ∧ (g : Int) * ((nd k).toInt - c) ≤ 48 := by
    generalize hx : (nd k).toInt - c = x
    have : x = -3 ∨ x = -2 ∨ x = -1 ∨ x = 0 ∨ x = 1 ∨ x = 2 ∨ x = 3 := by omega
    rcases this with rfl | rfl | rfl | rfl | rfl | rfl | rfl <;> omega
  omega
theorem mv_step {q nd : Nat → Int32} {g K : Nat} {cn : Nat → Int} {f : Nat → Int32} (h : MV q nd g cn K f) (hK : K % 4 ≠ 0) : MV q nd g cn (K + 1) (upd f K (iI (clp ((q K).toInt + g * ((nd K).toInt - cn K))))) := by
  intro k hk
  rw [upd_at]
  by_cases e : k = K
  · subst e
    rw [if_pos rfl, if_pos ⟨by omega, hK⟩]
  · rw [if_neg e, h k hk]
    by_cases h2 : k < K ∧ k % 4 ≠ 0
    · rw [if_pos h2, if_pos ⟨by omega, h2.2⟩]
    · rw [if_neg h2, if_neg (fun q => h2 ⟨by omega, q.2⟩)]
theorem mv_skip {q nd : Nat → Int32} {g K : Nat} {cn : Nat → Int} {f : Nat → Int32} (h : MV q nd g cn K f) (hK : K % 4 = 0) : MV q nd g cn (K + 1) f := by
  intro k hk
  rw [h k hk]
  by_cases h2 : k < K ∧ k % 4 ≠ 0
  · rw [if_pos h2, if_pos ⟨by omega, h2.2⟩]
  · rw [if_neg h2, if_neg]
    rintro ⟨h3, h4⟩
    have : k ≠ K := fun e => h4 (e ▸ hK)
    exact h2 ⟨by omega, h4⟩
theorem p_movePrices {fu D r : Nat} {z : Int} {q nd : Nat → Int32} (hfu : 24 < fu) (hD : D ≤ 6) (hq : Lim 24 999 q) (hn : Lim 24 3 nd) (h1 : -2 ^ 63 ≤ z) (h2 : z < 2 ^ 63) :
    ∃ q', f_Pr_movePrices fu (jJ z) (mI (m16 r)) q (mI D) nd = some (mI (m16 (r + 1)), q') ∧ MV q nd (gr r) (fun k => ms z (k / 4) (k % 4) 3) (4 * D) q' := by
  have hg := gr_bd r
  unfold f_Pr_movePrices
  rw [p_nextGrowth, sb]
  dsimp only
  have inner : ∀ d f, d < D → MV q nd (gr r) (fun k => ms z (k / 4) (k % 4) 3) (4 * d + 1) f → ∃ r', iter (f_Pr_movePrices_l21 fu (jJ z) (mI (gr r)) (mI d) nd) fu (mI 1, f) = some r' ∧ MV q nd (gr r) (fun k => ms z (k / 4) (k % 4) 3) (4 * (d + 1)) r'.2 := by
    intro d f hd hf
    refine iter_for (N := 3) (fun j (s : Int32 × (Nat → Int32)) => s.1 = mI (j + 1) ∧ MV q nd (gr r) (fun k => ms z (k / 4) (k % 4) 3) (4 * d + (j + 1)) s.2) (P := fun (r' : Int32 × (Nat → Int32)) => MV q nd (gr r) (fun k => ms z (k / 4) (k % 4) 3) (4 * (d + 1)) r'.2) ?_ ?_ fu 0 (mI 1, f) (by omega) (by omega) ⟨rfl, hf⟩
    · rintro j ⟨i, f⟩ hj ⟨rfl, hf⟩
      unfold f_Pr_movePrices_l21
      dsimp only
      have hfk := hf (4 * d + (j + 1)) (by omega)
      rw [if_neg (by omega)] at hfk
      have hms := @ms_bd z d (j + 1) 3
      have hb := mv_bd (g := gr r) (k := 4 * d + (j + 1)) (by omega) hq hn hg.2 ⟨hms.1, hms.2⟩
      rw [if_neg (show ¬ (4 : Int32) ≤ mI (j + 1) from fun q => absurd ((mI_le (a := 4) (by omega) (by omega)).1 q) (by omega)), p_missing (by omega) (by omega) (by omega) h1 h2, sb, p_cell, sb, gi_n (by omega) (by omega), sb, sb, si_n (by omega) (by omega), sb, mI_1]
      refine ⟨_, rfl, rfl, ?_⟩
      dsimp only
      dsimp only at hfk
      rw [hfk]
      have e : q (4 * d + (j + 1)) + mI (gr r) * iI ((nd (4 * d + (j + 1))).toInt - ms z d (j + 1) 3) = iI ((q (4 * d + (j + 1))).toInt + (gr r : Int) * ((nd (4 * d + (j + 1))).toInt - ms z d (j + 1) 3)) := by
        conv => lhs; rw [i_of (q (4 * d + (j + 1)))]
        rw [mI_iI, iI_mul, iI_add]
      rw [e, clp_c hb.1 hb.2]
      have e1 : (4 * d + (j + 1)) / 4 = d := by omega
      have e2 : (4 * d + (j + 1)) % 4 = j + 1 := by omega
      have := mv_step hf (by omega)
      dsimp only at this
      rw [e1, e2] at this
      exact this
    · rintro ⟨i, f⟩ ⟨rfl, hf⟩
      refine ⟨(mI (3 + 1), f), ?_, hf⟩
      unfold f_Pr_movePrices_l21
      dsimp only
      rw [if_pos (show (4 : Int32) ≤ mI (3 + 1) from (mI_le (a := 4) (by omega) (by omega)).2 (by omega))]
  obtain ⟨r', g1, g2⟩ := iter_for (N := D) (b := f_Pr_movePrices_l9 fu (jJ z) (mI (gr r)) (mI D) nd) (fun d (s : Int32 × (Nat → Int32)) => s.1 = mI d ∧ MV q nd (gr r) (fun k => ms z (k / 4) (k % 4) 3) (4 * d) s.2) (P := fun r' => MV q nd (gr r) (fun k => ms z (k / 4) (k % 4) 3) (4 * D) r'.2)
    (by
      rintro d ⟨i, f⟩ hd ⟨rfl, hf⟩
      obtain ⟨r', g1, g2⟩ := inner d f hd (mv_skip hf (by omega))
      unfold f_Pr_movePrices_l9
      dsimp only
      rw [if_neg (show ¬ mI D ≤ mI d from fun q => absurd ((mI_le (by omega) (by omega)).1 q) (by omega))]
      show ∃ a', ((iter _ fu (mI 1, f)).bind _) = _ ∧ _
      rw [g1, sb, mI_1]
      exact ⟨_, rfl, rfl, g2⟩)
    (by
      rintro ⟨i, f⟩ ⟨rfl, hf⟩
      refine ⟨(mI D, f), ?_, hf⟩
      unfold f_Pr_movePrices_l9
      dsimp only
      rw [if_pos (show mI D ≤ mI D from (mI_le (by omega) (by omega)).2 (by omega))])
    fu 0 (mI 0, q) (by omega) (by omega) ⟨rfl, fun k hk => by rw [if_neg (by omega)]⟩
  show ∃ q', ((iter _ fu (mI 0, q)).bind _) = _ ∧ _
  rw [g1, sb]
  exact ⟨_, rfl, g2⟩
