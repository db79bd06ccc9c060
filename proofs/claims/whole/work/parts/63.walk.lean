/-! walkLines: for each state the least key and the number of the legal lines that lead to it -/
theorem toInt_add' {a b : Int32} (h1 : -2 ^ 31 ≤ a.toInt + b.toInt) (h2 : a.toInt + b.toInt < 2 ^ 31) : (a + b).toInt = a.toInt + b.toInt := by
  have e : a + b = iI (a.toInt + b.toInt) := by
    rw [← iI_add]
    show a + b = Int32.ofInt a.toInt + Int32.ofInt b.toInt
    rw [Int32.ofInt_toInt, Int32.ofInt_toInt]
  rw [e, iI_toInt h1 h2]
theorem toInt_sub' {a b : Int32} (h1 : -2 ^ 31 ≤ a.toInt - b.toInt) (h2 : a.toInt - b.toInt < 2 ^ 31) : (a - b).toInt = a.toInt - b.toInt := by
  have e : a - b = iI (a.toInt - b.toInt) := by
    rw [← iI_sub]
    show a - b = Int32.ofInt a.toInt - Int32.ofInt b.toInt
    rw [Int32.ofInt_toInt, Int32.ofInt_toInt]
  rw [e, iI_toInt h1 h2]
theorem kk_bd {δ : Nat → Nat → Nat → Option Nat} {κ : Nat → Nat → Nat → Int} {t0 D : Nat} {B : Int} (h : ∀ d t s, d < D → s < 4 → -B ≤ κ d t s ∧ κ d t s ≤ B) (hB : 0 ≤ B) : ∀ (d c : Nat), d ≤ D → -(d * B) ≤ dp_K δ κ t0 d c ∧ dp_K δ κ t0 d c ≤ d * B := by
  intro d
  induction d with
  | zero => intro c _; unfold dp_K; constructor <;> simp
  | succ d ih =>
    intro c hd
    unfold dp_K
    have h1 := ih (c / 4) (by omega)
    have e : ((d + 1 : Nat) : Int) * B = d * B + B := by rw [Int.natCast_add, Int.add_mul]; simp
    rw [e]
    split
    · rename_i t _
      have := h d t (c % 4) (by omega) (by omega)
      omega
    · omega
theorem isMin_rng {P : Nat → Bool} {K : Nat → Int} {v L : Int} (hK : ∀ c, -L ≤ K c ∧ K c ≤ L) (hL : L < NO) (h : IsMin P K v) : -2 ^ 62 ≤ v ∧ v ≤ 2 ^ 62 := by
  have hN : NO = 2 ^ 62 := by decide
  rcases h with ⟨h1, _⟩ | ⟨c, _, h2, _⟩
  · omega
  · have := hK c; omega
theorem jJ_min {a b : Int} (ha : -2 ^ 63 ≤ a) (ha' : a < 2 ^ 63) (hb : -2 ^ 63 ≤ b) (hb' : b < 2 ^ 63) : (if jJ a < jJ b then jJ a else jJ b) = jJ (if a < b then a else b) := by
  by_cases h : a < b
  · rw [if_pos h, if_pos ((jJ_lt ha ha' hb hb').2 h)]
  · rw [if_neg h, if_neg (fun q => h ((jJ_lt ha ha' hb hb').1 q))]
def cl_k (n : Nat) (sc pc q : Nat → Int32) (d t s : Nat) : Int := ((sc (4 * d + s)).toInt + (pc (4 * sh t + s)).toInt - (q (4 * d + s)).toInt) * 2 ^ 36 + s * 2 ^ (36 - 2 * (3 * d + n + 1))
def Lim (m : Nat) (b : Int) (f : Nat → Int32) : Prop := ∀ k, k < m → 0 ≤ (f k).toInt ∧ (f k).toInt ≤ b
theorem pow34 {n d : Nat} : (0 : Int) ≤ 2 ^ (36 - 2 * (3 * d + n + 1)) ∧ (2 : Int) ^ (36 - 2 * (3 * d + n + 1)) ≤ 2 ^ 34 := by
  have h : (2 : Nat) ^ (36 - 2 * (3 * d + n + 1)) ≤ 2 ^ 34 := Nat.pow_le_pow_right (by omega) (by omega)
  have e : ((2 ^ (36 - 2 * (3 * d + n + 1)) : Nat) : Int) = (2 : Int) ^ (36 - 2 * (3 * d + n + 1)) := by simp
  have h' := Int.ofNat_le.2 h
  rw [e] at h'
  exact ⟨Int.le_of_lt (Int.pow_pos (by omega)), Int.le_trans h' (by decide)⟩
theorem cl_k_bd {n : Nat} {sc pc q : Nat → Int32} (hsc : Lim 24 99 sc) (hpc : Lim 16 99 pc) (hq : Lim 24 999 q) : ∀ d t s, d < 6 → s < 4 → -(2 ^ 47) ≤ cl_k n sc pc q d t s ∧ cl_k n sc pc q d t s ≤ 2 ^ 47 := by
  intro d t s hd hs
  have h1 := hsc (4 * d + s) (by omega)
  have h2 := hpc (4 * sh t + s) (by have := sh_lt t; omega)
  have h3 := hq (4 * d + s) (by omega)
  unfold cl_k
  have h4 := @pow34 n d
  generalize (2 : Int) ^ (36 - 2 * (3 * d + n + 1)) = p at *
  generalize (sc (4 * d + s)).toInt = x1 at *
  generalize (pc (4 * sh t + s)).toInt = x2 at *
  generalize (q (4 * d + s)).toInt = x3 at *
  have : s = 0 ∨ s = 1 ∨ s = 2 ∨ s = 3 := by omega
  rcases this with rfl | rfl | rfl | rfl <;> simp <;> omega
def WInv (δ : Nat → Nat → Nat → Option Nat) (κ : Nat → Nat → Nat → Int) (t0 d t s : Nat) (nk : Nat → Int64) (nw : Nat → Int32) : Prop := ∀ t', t' < 13 → (∃ z, nk t' = jJ z ∧ IsMin (dp_Q δ t0 d t' t s) (dp_K δ κ t0 (d + 1)) z) ∧ nw t' = mI (cnt (dp_Q δ t0 d t' t s) (4 ^ (d + 1)))
def SInv (δ : Nat → Nat → Nat → Option Nat) (κ : Nat → Nat → Nat → Int) (t0 d : Nat) (k : Nat → Int64) (w : Nat → Int32) : Prop := ∀ t, t < 13 → (∃ z, k t = jJ z ∧ IsMin (dp_B δ t0 d t) (dp_K δ κ t0 d) z) ∧ w t = mI (cnt (dp_B δ t0 d t) (4 ^ d))
theorem p_leaveState {fu D lg n d t t0 : Nat} {fb : Int32} {fx sc pc q : Nat → Int32} {k nk : Nat → Int64} {w nw : Nat → Int32} {z : Int} (hfu : 4 < fu) (hD : D ≤ 6) (hd : d < D) (hn : n < 3) (ht : t < 13) (hl : lg ≤ 4) (hsc : Lim 24 99 sc) (hpc : Lim 16 99 pc) (hq : Lim 24 999 q)
    (hk : k t = jJ z) (hm : IsMin (dp_B (cl_d D lg fb fx) t0 d t) (dp_K (cl_d D lg fb fx) (cl_k n sc pc q) t0 d) z) (hz : z ≠ NO) (hw : w t = mI (cnt (dp_B (cl_d D lg fb fx) t0 d t) (4 ^ d)))
    (hi : WInv (cl_d D lg fb fx) (cl_k n sc pc q) t0 d t 0 nk nw) :
    ∃ r, f_Lw_leaveState fu (mI d) (mI t) k nk w nw (mI n) fb (mI lg) (mI D) sc pc fx q = some r ∧ WInv (cl_d D lg fb fx) (cl_k n sc pc q) t0 d (t + 1) 0 r.1 r.2 := by
  have hb := cl_k_bd (n := n) hsc hpc hq
  have hK : ∀ d', d' ≤ D → ∀ c, -(2 ^ 50) ≤ dp_K (cl_d D lg fb fx) (cl_k n sc pc q) t0 d' c ∧ dp_K (cl_d D lg fb fx) (cl_k n sc pc q) t0 d' c ≤ 2 ^ 50 := by
    intro d' hd' c
    have := kk_bd (δ := cl_d D lg fb fx) (t0 := t0) (D := D) (fun d t s h h' => hb d t s (by omega) h') (by omega) d' c hd'
    omega
  have hN : NO = 2 ^ 62 := by decide
  unfold f_Lw_leaveState
  rw [p_placeBit hn (by omega), sb]
  obtain ⟨r, h1, h2⟩ := iter_for (N := 4) (b := f_Lw_leaveState_l13 (mI d) (mI t) (mI (36 - 2 * (3 * d + n + 1))) k w fb (mI lg) (mI D) sc pc fx q) (fun s (a : Int32 × (Nat → Int64) × (Nat → Int32)) => a.1 = mI s ∧ WInv (cl_d D lg fb fx) (cl_k n sc pc q) t0 d t s a.2.1 a.2.2) (P := fun r => WInv (cl_d D lg fb fx) (cl_k n sc pc q) t0 d t 4 r.2.1 r.2.2)
    (by
      rintro s ⟨i, nk, nw⟩ hs ⟨rfl, hi⟩
      unfold f_Lw_leaveState_l13
      dsimp only
      rw [if_neg (show ¬ (4 : Int32) ≤ mI s from fun h => absurd ((mI_le (a := 4) (by omega) (by omega)).1 h) (by omega)), p_stateAfter hD hd ht hs hl, sb]
      cases hc : cl_d D lg fb fx d t s with
      | none =>
        rw [if_pos (show enc none = -1 from rfl)]
        refine ⟨(mI (s + 1), nk, nw), by unfold f_Lw_leaveState_b108; rw [mI_1], rfl, fun t' ht' => ?_⟩
        have hne : cl_d D lg fb fx d t s ≠ some t' := by rw [hc]; intro h; cases h
        obtain ⟨⟨z', e1, e2⟩, e3⟩ := hi t' ht'
        exact ⟨⟨z', e1, isMin_congr (fun c => (step_no hne c).symm) (fun _ _ => rfl) e2⟩, by rw [cnt_congr (fun c _ => step_no hne c)]; exact e3⟩
      | some u =>
        have hu := cl_lt hl d t s u hc ht hs
        obtain ⟨⟨zu, e1, e2⟩, e3⟩ := hi u hu
        dsimp only at e1 e3
        have b1 := hsc (4 * d + s) (by omega)
        have b2 := hpc (4 * sh t + s) (by have := sh_lt t; omega)
        have b3 := hq (4 * d + s) (by omega)
        have b4 := isMin_rng (hK d (by omega)) (by omega) hm
        have b5 := isMin_rng (hK (d + 1) (by omega)) (by omega) e2
        have b6 := hb d t s (by omega) hs
        have ew : (sc (4 * d + s) + pc (4 * sh t + s) - q (4 * d + s)).toInt = (sc (4 * d + s)).toInt + (pc (4 * sh t + s)).toInt - (q (4 * d + s)).toInt := by
          rw [toInt_sub' (by rw [toInt_add' (by omega) (by omega)]; omega) (by rw [toInt_add' (by omega) (by omega)]; omega), toInt_add' (by omega) (by omega)]
        rw [show enc (some u) = mI u from rfl, if_neg (mI_ne_neg (by omega)), p_penaltyOf (by omega) ht hs, sb, p_cell, sb, gi_n (by omega) (by omega), sb, gl_n ht (by omega), sb, p_stepKey (by omega) hs, sb, gl_n hu (by omega), sb, sl_n hu (by omega), sb, gi_n hu (by omega), sb, gi_n ht (by omega), sb, si_n hu (by omega), sb]
        refine ⟨_, by unfold f_Lw_leaveState_b108; rw [mI_1], rfl, fun t' ht' => ?_⟩
        dsimp only
        rw [updL_at, upd_at, hk, e1, ew, jJ_add, jJ_min (by unfold cl_k at b6; omega) (by unfold cl_k at b6; omega) (by omega) (by omega)]
        by_cases htu : t' = u
        · subst htu
          rw [if_pos rfl, if_pos rfl]
          refine ⟨⟨_, rfl, ?_⟩, ?_⟩
          · exact step_key hs (fun c => by have := hK (d + 1) (by omega) c; omega) hm hz hc e2
          · rw [e3, hw, mI_add, Nat.pow_succ, Nat.mul_comm, step_cnt hs hc]
        · rw [if_neg htu, if_neg htu]
          have hne : cl_d D lg fb fx d t s ≠ some t' := by rw [hc]; intro h; cases h; exact htu rfl
          obtain ⟨⟨z', e1, e2⟩, e3⟩ := hi t' ht'
          exact ⟨⟨z', e1, isMin_congr (fun c => (step_no hne c).symm) (fun _ _ => rfl) e2⟩, by rw [cnt_congr (fun c _ => step_no hne c)]; exact e3⟩)
    (by
      rintro ⟨i, nk, nw⟩ ⟨rfl, hi⟩
      refine ⟨(mI 4, nk, nw), ?_, hi⟩
      unfold f_Lw_leaveState_l13
      dsimp only
      rw [if_pos (show (4 : Int32) ≤ mI 4 from (mI_le (a := 4) (by omega) (by omega)).2 (by omega))])
    fu 0 (mI 0, nk, nw) (by omega) (by omega) ⟨rfl, hi⟩
  refine ⟨(r.2.1, r.2.2), ?_, fun t' ht' => ?_⟩
  · show (iter _ fu (mI 0, nk, nw)).bind _ = _
    rw [h1]; rfl
  · obtain ⟨⟨z', e1, e2⟩, e3⟩ := h2 t' ht'
    exact ⟨⟨z', e1, isMin_congr (fun c => qq_row c) (fun _ _ => rfl) e2⟩, by rw [← cnt_congr (fun c _ => qq_row c)]; exact e3⟩
