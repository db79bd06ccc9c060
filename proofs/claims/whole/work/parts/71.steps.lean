/-! readSteps: the steps of a nurse on a day, with changes against a plan -/
def rk (n : Nat) (sc pc : Nat → Int32) (ch : Nat → Bool) (d x s : Nat) : Int := ((sc (4 * d + s)).toInt + (pc (4 * sh x + s)).toInt + (if ch s = true then 4096 else 0)) * 2 ^ 36 + s * 2 ^ (36 - 2 * (3 * d + n + 1))
def RS (D lg n : Nat) (fb : Int32) (fx sc pc : Nat → Int32) (ch : Nat → Bool) (d s x : Nat) (sa : Nat → Int32) (ss : Nat → Int64) : Prop := ∀ x' s', x' < 13 → s' < 4 → (s' < s ∨ (s' = s ∧ x' < x)) → sa (4 * x' + s') = enc (cl_d D lg fb fx d x' s') ∧ ss (4 * x' + s') = jJ (rk n sc pc ch d x' s')
theorem p_step76 {D lg n d s x : Nat} {fb : Int32} {fx sc pc : Nat → Int32} {ch : Nat → Bool} {sa : Nat → Int32} {ss : Nat → Int64} {e : Int32} (hD : D ≤ 6) (hd : d < D) (hl : lg ≤ 4) (hs : s < 4) (hx : x < 13) (hsc : Lim 24 99 sc) (hpc : Lim 16 99 pc) (he : e.toInt = if ch s = true then 4096 else 0) (hi : RS D lg n fb fx sc pc ch d s x sa ss) :
    ∃ a', f_Rs_readSteps_b76 (mI d) (mI (36 - 2 * (3 * d + n + 1))) (mI s) (mI x) e (sc (4 * d + s) + pc (4 * sh x + s)) sa ss fb (mI lg) (mI D) fx = some (.inl a') ∧ a'.1 = mI (x + 1) ∧ RS D lg n fb fx sc pc ch d s (x + 1) a'.2.1 a'.2.2 := by
  have b1 := hsc (4 * d + s) (by omega)
  have b2 := hpc (4 * sh x + s) (by have := sh_lt x; omega)
  have b3 : 0 ≤ e.toInt ∧ e.toInt ≤ 4096 := by rw [he]; split <;> omega
  unfold f_Rs_readSteps_b76
  rw [p_cell, sb, p_stateAfter hD hd hx hs hl, sb, si_n (by omega) (by omega), sb, sb, p_stepKey (by omega) hs, sb, sl_n (by omega) (by omega), sb, mI_1, toInt_add' (by rw [toInt_add' (by omega) (by omega)]; omega) (by rw [toInt_add' (by omega) (by omega)]; omega), toInt_add' (by omega) (by omega), he]
  refine ⟨_, rfl, rfl, fun x' s' hx' hs' h => ?_⟩
  dsimp only
  rw [upd_at, updL_at]
  by_cases q : x' = x ∧ s' = s
  · obtain ⟨rfl, rfl⟩ := q
    rw [if_pos rfl, if_pos rfl]
    exact ⟨rfl, rfl⟩
  · rw [if_neg (by omega), if_neg (by omega)]
    exact hi x' s' hx' hs' (by omega)
theorem p_steps43 {fu D lg n d s : Nat} {fb t : Int32} {fx sc pc : Nat → Int32} {ch : Nat → Bool} {sa : Nat → Int32} {ss : Nat → Int64} (hfu : 13 < fu) (hD : D ≤ 6) (hd : d < D) (hl : lg ≤ 4) (hs : s < 4) (hsc : Lim 24 99 sc) (hpc : Lim 16 99 pc) (ht : t = bI (ch s)) (hi : RS D lg n fb fx sc pc ch d s 0 sa ss) :
    ∃ a', f_Rs_readSteps_b43 fu (mI d) (mI (36 - 2 * (3 * d + n + 1))) (mI s) t sa ss fb (mI lg) (mI D) sc pc fx = some (.inl a') ∧ a'.1 = mI (s + 1) ∧ RS D lg n fb fx sc pc ch d (s + 1) 0 a'.2.1 a'.2.2 := by
  unfold f_Rs_readSteps_b43
  obtain ⟨r, h1, h2⟩ := iter_for (N := 13) (b := f_Rs_readSteps_l48 (mI d) (mI (36 - 2 * (3 * d + n + 1))) (mI s) t fb (mI lg) (mI D) sc pc fx) (fun x (a : Int32 × (Nat → Int32) × (Nat → Int64)) => a.1 = mI x ∧ RS D lg n fb fx sc pc ch d s x a.2.1 a.2.2) (P := fun r => RS D lg n fb fx sc pc ch d s 13 r.2.1 r.2.2)
    (by
      rintro x ⟨i, sa, ss⟩ hx ⟨rfl, hi⟩
      unfold f_Rs_readSteps_l48
      dsimp only at hi ⊢
      rw [if_neg (show ¬ (13 : Int32) ≤ mI x from fun h => absurd ((mI_le (a := 13) (by omega) (by omega)).1 h) (by omega)), p_penaltyOf (by omega) hx hs, sb]
      cases hc : ch s with
      | false =>
        rw [if_pos (show t = 0 by rw [ht, hc]; rfl)]
        exact p_step76 hD hd hl hs hx hsc hpc (by rw [hc]; rfl) hi
      | true =>
        rw [if_neg (show ¬ t = 0 by rw [ht, hc]; decide)]
        exact p_step76 hD hd hl hs hx hsc hpc (by rw [hc]; rfl) hi)
    (by
      rintro ⟨i, sa, ss⟩ ⟨rfl, hi⟩
      refine ⟨(mI 13, sa, ss), ?_, hi⟩
      unfold f_Rs_readSteps_l48
      dsimp only
      rw [if_pos (show (13 : Int32) ≤ mI 13 from (mI_le (a := 13) (by omega) (by omega)).2 (by omega))])
    fu 0 (mI 0, sa, ss) (by omega) (by omega) ⟨rfl, hi⟩
  refine ⟨(mI (s + 1), r.2.1, r.2.2), ?_, rfl, fun x' s' hx' hs' h => h2 x' s' hx' hs' (by omega)⟩
  show (iter _ fu (mI 0, sa, ss)).bind _ = _
  rw [h1, sb, mI_1]
def Plan (pl : Int64) (b : Nat) (ch : Nat → Bool) : Prop := (pl = jJ NO ∧ ∀ s, s < 4 → ch s = false) ∨ ∃ z, pl = jJ z ∧ -2 ^ 62 ≤ z ∧ z < NO ∧ ∀ s, s < 4 → ch s = decide ((z / 2 ^ b % 4).toNat ≠ s)
theorem p_readSteps {fu D lg n d : Nat} {fb : Int32} {pl : Int64} {fx sc pc : Nat → Int32} {ch : Nat → Bool} {sa : Nat → Int32} {ss : Nat → Int64} (hfu : 13 < fu) (hD : D ≤ 6) (hd : d < D) (hn : n < 3) (hl : lg ≤ 4) (hsc : Lim 24 99 sc) (hpc : Lim 16 99 pc) (hp : Plan pl (36 - 2 * (3 * d + n + 1)) ch) :
    ∃ sa' ss', f_Rs_readSteps fu (mI d) pl sa ss (mI n) fb (mI lg) (mI D) sc pc fx = some (sa', ss') ∧ ∀ x s, x < 13 → s < 4 → sa' (4 * x + s) = enc (cl_d D lg fb fx d x s) ∧ ss' (4 * x + s) = jJ (rk n sc pc ch d x s) := by
  have hN : NO = 2 ^ 62 := by decide
  unfold f_Rs_readSteps
  rw [p_placeBit hn (by omega), sb]
  obtain ⟨r, h1, h2⟩ := iter_for (N := 4) (b := f_Rs_readSteps_l13 fu (mI d) pl (mI (36 - 2 * (3 * d + n + 1))) fb (mI lg) (mI D) sc pc fx) (fun s (a : Int32 × (Nat → Int32) × (Nat → Int64)) => a.1 = mI s ∧ RS D lg n fb fx sc pc ch d s 0 a.2.1 a.2.2) (P := fun r => RS D lg n fb fx sc pc ch d 4 0 r.2.1 r.2.2)
    (by
      rintro s ⟨i, sa, ss⟩ hs ⟨rfl, hi⟩
      unfold f_Rs_readSteps_l13
      dsimp only at hi ⊢
      rw [if_neg (show ¬ (4 : Int32) ≤ mI s from fun h => absurd ((mI_le (a := 4) (by omega) (by omega)).1 h) (by omega)), NO_jJ]
      unfold f_Rs_readSteps_b42
      rcases hp with ⟨e1, e2⟩ | ⟨z, e1, e2, e3, e4⟩
      · rw [if_pos e1]
        exact p_steps43 hfu hD hd hl hs hsc hpc (by rw [e2 s hs]; rfl) hi
      · rw [e1, if_neg (by rw [jJ_inj (by omega) (by omega) (by omega) (by omega)]; omega), p_shiftAt (by omega) (by omega) (by omega), sb]
        have em : (mI (z / 2 ^ (36 - 2 * (3 * d + n + 1)) % 4).toNat = mI s) ↔ (z / 2 ^ (36 - 2 * (3 * d + n + 1)) % 4).toNat = s := mI_inj (by omega) (by omega)
        by_cases hq : (z / 2 ^ (36 - 2 * (3 * d + n + 1)) % 4).toNat = s
        · rw [if_pos (em.2 hq)]
          exact p_steps43 hfu hD hd hl hs hsc hpc (by rw [e4 s hs, decide_eq_false (fun h => h hq)]; rfl) hi
        · rw [if_neg (fun h => hq (em.1 h))]
          exact p_steps43 hfu hD hd hl hs hsc hpc (by rw [e4 s hs, decide_eq_true hq]; rfl) hi)
    (by
      rintro ⟨i, sa, ss⟩ ⟨rfl, hi⟩
      refine ⟨(mI 4, sa, ss), ?_, hi⟩
      unfold f_Rs_readSteps_l13
      dsimp only
      rw [if_pos (show (4 : Int32) ≤ mI 4 from (mI_le (a := 4) (by omega) (by omega)).2 (by omega))])
    fu 0 (mI 0, sa, ss) (by omega) (by omega) ⟨rfl, fun x' s' _ _ h => by omega⟩
  refine ⟨r.2.1, r.2.2, ?_, fun x s hx hs => h2 x s hx hs (.inl hs)⟩
  show (iter _ fu (mI 0, sa, ss)).bind _ = _
  rw [h1, sb]
