/-! the reference's round -/
def cc (D : Nat) (x : Nat → Nat) (k : Nat) : Nat → Int
  | 0 => 0
  | m + 1 => cc D x k m + if k / 4 < D ∧ x m / 4 ^ (D - (k / 4 + 1)) % 4 = k % 4 then 1 else 0
def sw (w : Nat → Int) : Nat → Int
  | 0 => 0
  | n + 1 => sw w n + w n
theorem cc_bd {D : Nat} {x : Nat → Nat} {k : Nat} : ∀ m, 0 ≤ cc D x k m ∧ cc D x k m ≤ m := by
  intro m
  induction m with
  | zero => exact ⟨Int.le_refl _, Int.le_refl _⟩
  | succ m ih => unfold cc; split <;> omega
theorem q_r2 {fu : Nat} {cn : Nat → Int32} (hfu : 24 < fu) : ∃ r, iter f_Wm_round_l2 fu (mI 0, cn) = some r ∧ ∀ k, k < 24 → r.2 k = 0 := by
  refine iter_for (N := 24) (fun k (s : Int32 × (Nat → Int32)) => s.1 = mI k ∧ ∀ j, j < k → s.2 j = 0) (P := fun (r : Int32 × (Nat → Int32)) => ∀ k, k < 24 → r.2 k = 0) ?_ ?_ fu 0 (mI 0, cn) (by omega) (by omega) ⟨rfl, fun j hj => by omega⟩
  · rintro k ⟨i, f⟩ hk ⟨rfl, hf⟩
    unfold f_Wm_round_l2
    dsimp only
    rw [if_neg (show ¬ (24 : Int32) ≤ mI k from fun q => absurd ((mI_le (a := 24) (by omega) (by omega)).1 q) (by omega)), si_n hk (by omega), sb, mI_1]
    refine ⟨_, rfl, rfl, fun j hj => ?_⟩
    dsimp only
    rw [upd_at]
    by_cases e : j = k
    · rw [if_pos e]
    · rw [if_neg e]; exact hf j (by omega)
  · rintro ⟨i, f⟩ ⟨rfl, hf⟩
    refine ⟨(mI 24, f), ?_, hf⟩
    unfold f_Wm_round_l2
    dsimp only
    rw [if_pos (show (24 : Int32) ≤ mI 24 from (mI_le (a := 24) (by omega) (by omega)).2 (by omega))]
theorem q_r58 {fu D m : Nat} {x : Nat → Nat} {f : Nat → Int32} (hfu : 6 < fu) (hD : D ≤ 6) (hx : x m < 4 ^ D) (hf : ∀ k, k < 24 → f k = iI (cc D x k m)) : ∃ r, iter (f_Wm_round_l58 (mI (x m)) (mI D)) fu (mI 0, f) = some r ∧ ∀ k, k < 24 → r.2 k = iI (cc D x k (m + 1)) := by
  have h4 := pow46 hD
  refine iter_for (N := D) (fun d (s : Int32 × (Nat → Int32)) => s.1 = mI d ∧ ∀ k, k < 24 → s.2 k = iI (cc D x k m + if k / 4 < d ∧ x m / 4 ^ (D - (k / 4 + 1)) % 4 = k % 4 then 1 else 0)) (P := fun (r : Int32 × (Nat → Int32)) => ∀ k, k < 24 → r.2 k = iI (cc D x k (m + 1))) ?_ ?_ fu 0 (mI 0, f) (by omega) (by omega) ⟨rfl, fun k hk => by rw [if_neg (by omega), Int.add_zero]; exact hf k hk⟩
  · rintro d ⟨i, f⟩ hd ⟨rfl, hf⟩
    dsimp only at hf
    unfold f_Wm_round_l58
    dsimp only
    have hs : x m / 4 ^ (D - (d + 1)) % 4 < 4 := Nat.mod_lt _ (by omega)
    have e : 4 * mI d + mI (x m / 4 ^ (D - (d + 1)) % 4) = mI (4 * d + x m / 4 ^ (D - (d + 1)) % 4) := by
      show mI 4 * mI d + _ = _
      rw [mI_mul, mI_add]
    rw [if_neg (show ¬ mI D ≤ mI d from fun q => absurd ((mI_le (by omega) (by omega)).1 q) (by omega)), p_shiftOfR hD hd (by omega), sb, e, gi_n (by omega) (by omega), sb, si_n (by omega) (by omega), sb, mI_1]
    refine ⟨_, rfl, rfl, fun k hk => ?_⟩
    dsimp only
    rw [upd_at]
    by_cases q : k = 4 * d + x m / 4 ^ (D - (d + 1)) % 4
    · have hkd : k / 4 = d := by omega
      have hkm : k % 4 = x m / 4 ^ (D - (d + 1)) % 4 := by omega
      rw [if_pos q, ← q, hf k hk, if_neg (by omega), hkd, if_pos ⟨by omega, hkm.symm⟩, Int.add_zero]
      exact iI_add _ 1
    · rw [if_neg q, hf k hk]
      by_cases hkd : k / 4 = d
      · rw [if_neg (by omega), if_neg]
        rintro ⟨_, h⟩
        rw [hkd] at h
        omega
      · have : (k / 4 < d) ↔ (k / 4 < d + 1) := by omega
        simp only [this]
  · rintro ⟨i, f⟩ ⟨rfl, hf⟩
    refine ⟨(mI D, f), ?_, hf⟩
    unfold f_Wm_round_l58
    dsimp only
    rw [if_pos (show mI D ≤ mI D from (mI_le (by omega) (by omega)).2 (by omega))]
theorem q_r184 {fu D g : Nat} {q nd cn : Nat → Int32} {ci : Nat → Int} (hfu : 24 < fu) (hD : D ≤ 6) (hq : Lim 24 999 q) (hn : Lim 24 3 nd) (hg : g ≤ 16) (hc : ∀ k, k < 24 → cn k = iI (ci k) ∧ 0 ≤ ci k ∧ ci k ≤ 3) :
    ∃ r, iter (f_Wm_round_l184 (mI g) (mI D) nd cn) fu (mI 0, q) = some r ∧ ∀ k, k < 24 → r.2 k = if k < 4 * D then (if k % 4 = 0 then 0 else iI (clp ((q k).toInt + g * ((nd k).toInt - ci k)))) else q k := by
  have e4 : 4 * mI D = mI (4 * D) := mI_mul 4 D
  refine iter_for (N := 4 * D) (fun K (s : Int32 × (Nat → Int32)) => s.1 = mI K ∧ ∀ k, k < 24 → s.2 k = if k < K then (if k % 4 = 0 then 0 else iI (clp ((q k).toInt + g * ((nd k).toInt - ci k)))) else q k) (P := fun (r : Int32 × (Nat → Int32)) => ∀ k, k < 24 → r.2 k = if k < 4 * D then (if k % 4 = 0 then 0 else iI (clp ((q k).toInt + g * ((nd k).toInt - ci k)))) else q k) ?_ ?_ fu 0 (mI 0, q) (by omega) (by omega) ⟨rfl, fun k hk => by rw [if_neg (by omega)]⟩
  · rintro K ⟨i, f⟩ hK ⟨rfl, hf⟩
    have hb := mv_bd (g := g) (k := K) (by omega) hq hn hg (hc K (by omega)).2
    have e0 : mI K - mI K / 4 * 4 = mI (K % 4) := by
      show mI K - mI K / mI 4 * mI 4 = _
      rw [mI_div (by omega) (by omega), mI_mul, mI_sub (by omega)]
      congr 1
      omega
    have st : ∀ v : Int, -2 ^ 31 ≤ v → v < 2 ^ 31 → f_Wm_round_b226 (mI K) (iI v) f = some (.inl (mI (K + 1), upd f K (iI (clp v)))) := by
      intro v h1 h2
      unfold f_Wm_round_b226 f_Wm_round_b258 clp
      rw [si_n (by omega) (by omega), sb, si_n (by omega) (by omega), sb, si_n (by omega) (by omega), sb, mI_1]
      have a1 : (0 ≤ iI v) ↔ 0 ≤ v := iI_le (a := 0) (by omega) (by omega) h1 h2
      have a2 : (iI v ≤ 999) ↔ v ≤ 999 := iI_le (b := 999) h1 h2 (by omega) (by omega)
      by_cases hv : v < 0
      · rw [if_neg (fun q => absurd (a1.1 q) (by omega)), if_pos hv]; rfl
      · rw [if_pos (a1.2 (by omega)), if_neg hv]
        by_cases hv2 : v ≤ 999
        · rw [if_pos (a2.2 hv2), if_pos hv2]
        · rw [if_neg (fun q => hv2 (a2.1 q)), if_neg hv2]; rfl
    have up : ∀ v : Int32, (v = if K % 4 = 0 then 0 else iI (clp ((q K).toInt + g * ((nd K).toInt - ci K)))) → ∀ k, k < 24 → upd f K v k = if k < K + 1 then (if k % 4 = 0 then 0 else iI (clp ((q k).toInt + g * ((nd k).toInt - ci k)))) else q k := by
      intro v hv k hk
      rw [upd_at]
      by_cases e : k = K
      · subst e
        rw [if_pos rfl, if_pos (by omega)]; exact hv
      · rw [if_neg e]
        have := hf k hk
        dsimp only at this
        rw [this]
        have e2 : (k < K) ↔ (k < K + 1) := by omega
        simp only [e2]
    unfold f_Wm_round_l184
    dsimp only
    have ek : (mI (K % 4) = 0) ↔ K % 4 = 0 := mI_inj (b := 0) (by omega) (by omega)
    rw [e4, if_neg (show ¬ mI (4 * D) ≤ mI K from fun q => absurd ((mI_le (by omega) (by omega)).1 q) (by omega)), e0]
    by_cases h0 : K % 4 = 0
    · rw [if_pos (ek.2 h0)]
      show ∃ a', f_Wm_round_b226 (mI K) (iI 0) f = _ ∧ _
      rw [st 0 (by omega) (by omega)]
      exact ⟨_, rfl, rfl, up _ (by rw [if_pos h0]; rfl)⟩
    · have hfK := hf K (by omega)
      dsimp only at hfK
      rw [if_neg (by omega)] at hfK
      rw [if_neg (fun q => h0 (ek.1 q)), gi_n (by omega) (by omega), sb, gi_n (by omega) (by omega), sb, gi_n (by omega) (by omega), sb, hfK, (hc K (by omega)).1]
      have e : q K + mI g * (nd K - iI (ci K)) = iI ((q K).toInt + (g : Int) * ((nd K).toInt - ci K)) := by
        conv => lhs; rw [i_of (q K), i_of (nd K)]
        rw [mI_iI, iI_sub, iI_mul, iI_add]
      rw [e, st _ hb.1 hb.2]
      exact ⟨_, rfl, rfl, up _ (by rw [if_neg h0])⟩
  · rintro ⟨i, f⟩ ⟨rfl, hf⟩
    refine ⟨(mI (4 * D), f), ?_, hf⟩
    unfold f_Wm_round_l184
    dsimp only
    rw [e4, if_pos (show mI (4 * D) ≤ mI (4 * D) from (mI_le (by omega) (by omega)).2 (by omega))]
