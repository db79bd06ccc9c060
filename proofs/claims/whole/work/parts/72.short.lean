/-! missing, countShort, dropShort -/
def dg (z : Int) (d n : Nat) : Nat := (z / 2 ^ (36 - 2 * (3 * d + n + 1)) % 4).toNat
def ms (z : Int) (d s : Nat) : Nat → Int
  | 0 => 0
  | n + 1 => ms z d s n + if dg z d n = s then 1 else 0
def shc (z : Int) (d : Nat) (nd : Nat → Int32) : Nat → Nat
  | 0 => 0
  | k + 1 => shc z d nd k + if 0 < (nd (4 * d + (k + 1))).toInt - ms z d (k + 1) 3 then 1 else 0
theorem ms_bd {z : Int} {d s : Nat} : ∀ n, 0 ≤ ms z d s n ∧ ms z d s n ≤ n := by
  intro n
  induction n with
  | zero => exact ⟨Int.le_refl _, Int.le_refl _⟩
  | succ n ih =>
    unfold ms
    split <;> omega
theorem p_missing {fu d s : Nat} {z : Int} {nd : Nat → Int32} (hfu : 3 < fu) (hd : d < 6) (hs : s < 4) (h1 : -2 ^ 63 ≤ z) (h2 : z < 2 ^ 63) : f_Wa_missing fu (jJ z) (mI d) (mI s) nd = some (iI ((nd (4 * d + s)).toInt - ms z d s 3)) := by
  unfold f_Wa_missing
  rw [p_cell, sb, gi_n (by omega) (by omega), sb]
  obtain ⟨r, e1, e2⟩ := iter_for (N := 3) (b := f_Wa_missing_l16 (jJ z) (mI d) (mI s)) (fun n (a : Int32 × Int32) => a.1 = iI ((nd (4 * d + s)).toInt - ms z d s n) ∧ a.2 = mI n) (P := fun r => r.1 = iI ((nd (4 * d + s)).toInt - ms z d s 3))
    (by
      rintro n ⟨x, i⟩ hn ⟨q1, q2⟩
      dsimp only at q1 q2
      subst q1; subst q2
      unfold f_Wa_missing_l16
      dsimp only
      rw [if_neg (show ¬ (3 : Int32) ≤ mI n from fun h => absurd ((mI_le (a := 3) (by omega) (by omega)).1 h) (by omega)), p_placeBit hn hd, sb, p_shiftAt (by omega) h1 h2, sb]
      unfold f_Wa_missing_b40
      have hdg : (z / 2 ^ (36 - 2 * (3 * d + n + 1)) % 4).toNat = dg z d n := rfl
      have hlt : dg z d n < 4 := by unfold dg; omega
      rw [hdg]
      have em : (mI (dg z d n) = mI s) ↔ dg z d n = s := mI_inj (by omega) (by omega)
      have eM : ms z d s (n + 1) = ms z d s n + if dg z d n = s then 1 else 0 := rfl
      by_cases hq : dg z d n = s
      · rw [if_pos (em.2 hq)]
        refine ⟨_, rfl, ?_, mI_1 n⟩
        rw [eM, if_pos hq]
        show iI _ + iI (-1) = _
        rw [iI_add]
        congr 1
        omega
      · rw [if_neg (fun h => hq (em.1 h))]
        refine ⟨_, rfl, ?_, mI_1 n⟩
        rw [eM, if_neg hq, Int.add_zero])
    (by
      rintro ⟨x, i⟩ ⟨q1, q2⟩
      dsimp only at q2
      subst q2
      refine ⟨(x, mI 3), ?_, q1⟩
      unfold f_Wa_missing_l16
      dsimp only
      rw [if_pos (show (3 : Int32) ≤ mI 3 from (mI_le (a := 3) (by omega) (by omega)).2 (by omega))])
    fu 0 (nd (4 * d + s), mI 0) (by omega) (by omega) ⟨by show _ = iI (_ - 0); rw [Int.sub_zero]; exact (Int32.ofInt_toInt _).symm, rfl⟩
  show (iter _ fu (nd (4 * d + s), mI 0)).bind _ = _
  rw [e1, sb, e2]
theorem p_countShort {fu d : Nat} {z : Int} {nd : Nat → Int32} (hfu : 4 < fu) (hd : d < 6) (hnd : Lim 24 3 nd) (h1 : -2 ^ 63 ≤ z) (h2 : z < 2 ^ 63) : f_Wa_countShort fu (jJ z) (mI d) nd = some (mI (shc z d nd 3)) := by
  unfold f_Wa_countShort
  obtain ⟨r, e1, e2⟩ := iter_for (N := 3) (b := f_Wa_countShort_l6 fu (jJ z) (mI d) nd) (fun k (a : Int32 × Int32) => a.1 = mI (shc z d nd k) ∧ a.2 = mI (k + 1)) (P := fun r => r.1 = mI (shc z d nd 3))
    (by
      rintro k ⟨x, i⟩ hk ⟨q1, q2⟩
      dsimp only at q1 q2
      subst q1; subst q2
      unfold f_Wa_countShort_l6
      dsimp only
      rw [if_neg (show ¬ (4 : Int32) ≤ mI (k + 1) from fun h => absurd ((mI_le (a := 4) (by omega) (by omega)).1 h) (by omega)), p_missing (by omega) hd (by omega) h1 h2, sb]
      unfold f_Wa_countShort_b26
      have b1 := hnd (4 * d + (k + 1)) (by omega)
      have b2 := @ms_bd z d (k + 1) 3
      have eS : shc z d nd (k + 1) = shc z d nd k + if 0 < (nd (4 * d + (k + 1))).toInt - ms z d (k + 1) 3 then 1 else 0 := rfl
      have ei : (iI ((nd (4 * d + (k + 1))).toInt - ms z d (k + 1) 3) ≤ 0) ↔ (nd (4 * d + (k + 1))).toInt - ms z d (k + 1) 3 ≤ 0 := iI_le (b := 0) (by omega) (by omega) (by omega) (by omega)
      by_cases hq : (nd (4 * d + (k + 1))).toInt - ms z d (k + 1) 3 ≤ 0
      · rw [if_pos (ei.2 hq)]
        refine ⟨_, rfl, ?_, mI_1 (k + 1)⟩
        rw [eS, if_neg (by omega)]
        rfl
      · rw [if_neg (fun h => hq (ei.1 h))]
        refine ⟨_, rfl, ?_, mI_1 (k + 1)⟩
        rw [eS, if_pos (by omega)]
        exact mI_1 _)
    (by
      rintro ⟨x, i⟩ ⟨q1, q2⟩
      dsimp only at q2
      subst q2
      refine ⟨(x, mI 4), ?_, q1⟩
      unfold f_Wa_countShort_l6
      dsimp only
      rw [if_pos (show (4 : Int32) ≤ mI 4 from (mI_le (a := 4) (by omega) (by omega)).2 (by omega))])
    fu 0 (mI 0, mI 1) (by omega) (by omega) ⟨rfl, rfl⟩
  show (iter _ fu (mI 0, mI 1)).bind _ = _
  rw [e1, sb, e2]
theorem p_dropShort {fu d : Nat} {nd : Nat → Int32} {k : Nat → Int64} {ζ : Nat → Int} (hfu : 2197 < fu) (hd : d < 6) (hnd : Lim 24 3 nd) (hk : ∀ t, t < 2197 → k t = jJ (ζ t) ∧ -2 ^ 62 ≤ ζ t ∧ ζ t ≤ NO) : ∃ k', f_Rs_dropShort fu (mI d) k nd = some k' ∧ ∀ t, t < 2197 → k' t = jJ (if ζ t = NO ∨ 0 < shc (ζ t) d nd 3 then NO else ζ t) := by
  have hN : NO = 2 ^ 62 := by decide
  have hle : ∀ z, shc z d nd 3 ≤ 3 := by
    intro z
    unfold shc shc shc shc
    split <;> split <;> split <;> omega
  unfold f_Rs_dropShort
  obtain ⟨r, e1, e2⟩ := iter_for (N := 2197) (b := f_Rs_dropShort_l2 fu (mI d) nd) (fun n (a : Int32 × (Nat → Int64)) => a.1 = mI n ∧ ∀ t, t < 2197 → a.2 t = jJ (if t < n ∧ (ζ t = NO ∨ 0 < shc (ζ t) d nd 3) then NO else ζ t)) (P := fun r => ∀ t, t < 2197 → r.2 t = jJ (if t < 2197 ∧ (ζ t = NO ∨ 0 < shc (ζ t) d nd 3) then NO else ζ t))
    (by
      rintro n ⟨i, g⟩ hn ⟨rfl, hg⟩
      dsimp only at hg
      have hgn : g n = jJ (ζ n) := by rw [hg n hn, if_neg (fun h => absurd h.1 (by omega))]
      have hb := hk n hn
      unfold f_Rs_dropShort_l2
      dsimp only
      rw [if_neg (show ¬ (2197 : Int32) ≤ mI n from fun h => absurd ((mI_le (a := 2197) (by omega) (by omega)).1 h) (by omega)), gl_n hn (by omega), sb, sb, hgn, NO_jJ]
      unfold f_Rs_dropShort_b45
      by_cases hz : ζ n = NO
      · rw [if_pos (by rw [hz])]
        refine ⟨_, rfl, mI_1 n, fun t ht => ?_⟩
        show g t = _
        by_cases q : t = n
        · subst q; rw [hgn, if_pos ⟨by omega, .inl hz⟩, hz]
        · rw [hg t ht]
          congr 1
          have : (t < n ∧ (ζ t = NO ∨ 0 < shc (ζ t) d nd 3)) ↔ (t < n + 1 ∧ (ζ t = NO ∨ 0 < shc (ζ t) d nd 3)) := ⟨fun h => ⟨by omega, h.2⟩, fun h => ⟨by omega, h.2⟩⟩
          simp only [this]
      · rw [if_neg (by rw [jJ_inj (by omega) (by omega) (by omega) (by omega)]; exact hz), p_countShort (by omega) hd hnd (by omega) (by omega), sb]
        have hl := hle (ζ n)
        have ei : (mI (shc (ζ n) d nd 3) ≤ 0) ↔ shc (ζ n) d nd 3 ≤ 0 := mI_le (b := 0) (by omega) (by omega)
        by_cases hq : shc (ζ n) d nd 3 ≤ 0
        · rw [if_pos (ei.2 hq)]
          refine ⟨_, rfl, mI_1 n, fun t ht => ?_⟩
          show g t = _
          by_cases q : t = n
          · subst q; rw [hgn, if_neg (fun h => by rcases h.2 with h | h; exact hz h; omega)]
          · rw [hg t ht]
            congr 1
            have : (t < n ∧ (ζ t = NO ∨ 0 < shc (ζ t) d nd 3)) ↔ (t < n + 1 ∧ (ζ t = NO ∨ 0 < shc (ζ t) d nd 3)) := ⟨fun h => ⟨by omega, h.2⟩, fun h => ⟨by omega, h.2⟩⟩
            simp only [this]
        · rw [if_neg (fun h => hq (ei.1 h)), sl_n hn (by omega), sb]
          refine ⟨_, rfl, mI_1 n, fun t ht => ?_⟩
          show vp_updL g n _ t = _
          rw [updL_at]
          by_cases q : t = n
          · subst q; rw [if_pos rfl, if_pos ⟨by omega, .inr (by omega)⟩]
          · rw [if_neg q, hg t ht]
            congr 1
            have : (t < n ∧ (ζ t = NO ∨ 0 < shc (ζ t) d nd 3)) ↔ (t < n + 1 ∧ (ζ t = NO ∨ 0 < shc (ζ t) d nd 3)) := ⟨fun h => ⟨by omega, h.2⟩, fun h => ⟨by omega, h.2⟩⟩
            simp only [this])
    (by
      rintro ⟨i, g⟩ ⟨rfl, hg⟩
      refine ⟨(mI 2197, g), ?_, hg⟩
      unfold f_Rs_dropShort_l2
      dsimp only
      rw [if_pos (show (2197 : Int32) ≤ mI 2197 from (mI_le (a := 2197) (by omega) (by omega)).2 (by omega))])
    fu 0 (mI 0, k) (by omega) (by omega) ⟨rfl, fun t ht => by rw [if_neg (fun h => absurd h.1 (by omega))]; exact (hk t ht).1⟩
  refine ⟨r.2, ?_, fun t ht => ?_⟩
  · show (iter _ fu (mI 0, k)).bind _ = _
    rw [e1, sb]
  · rw [e2 t ht]
    congr 1
    simp only [ht, true_and]
