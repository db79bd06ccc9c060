/-! a nurse: states, steps, penalties, keys -/
def sh (t : Nat) : Nat := if t = 0 then 0 else (t - 1) % 3 + 1
def wk (t : Nat) : Nat := if t = 0 then 0 else (t - 1) / 3 + 1
def so (s w : Nat) : Nat := if s = 0 then 0 else 3 * (w - 1) + s
def okF (f : Int32) (k : Nat) : Bool := decide (((f >>> (mI k &&& 31)) &&& 1) = 0)
def okX (f : Int32) (s : Nat) : Bool := decide (f = -1) || decide (f = mI s)
def enc : Option Nat → Int32
  | some t => mI t
  | none => -1
def cl_d (D lg : Nat) (fb : Int32) (fx : Nat → Int32) (d t s : Nat) : Option Nat :=
  if okX (fx d) s = true ∧ okF fb (4 * sh t + s) = true then
    if s = 0 then some 0 else if wk t + 1 ≤ lg then some (so s (if wk t + 1 + (D - 1 - d) ≤ lg then 1 else wk t + 1)) else none
  else none
theorem sh_lt (t : Nat) : sh t < 4 := by unfold sh; split <;> omega
theorem wk_le {t : Nat} (h : t < 13) : wk t ≤ 4 := by unfold wk; split <;> omega
theorem sh_so {s w : Nat} (hs : s < 4) (hw : 1 ≤ w) : sh (so s w) = s := by
  unfold sh so
  split
  · rename_i h; rw [if_pos rfl]; exact h.symm
  · rename_i h; rw [if_neg (by omega)]; omega
theorem wk_so {s w : Nat} (hs : s < 4) (h0 : s ≠ 0) (hw : 1 ≤ w) : wk (so s w) = w := by
  unfold wk so
  rw [if_neg h0, if_neg (by omega)]
  omega
theorem so_lt {s w : Nat} (hs : s < 4) (hw : w ≤ 4) : so s w < 13 := by unfold so; split <;> omega
theorem p_shiftOf : ∀ t, t < 13 → f_Wr_shiftOf (mI t) = some (mI (sh t)) := by decide
theorem p_workedOf : ∀ t, t < 13 → f_Wr_workedOf (mI t) = some (mI (wk t)) := by decide
theorem p_stateOf : ∀ s, s < 4 → ∀ w, w < 5 → 1 ≤ w → f_Wr_stateOf (mI s) (mI w) = some (mI (so s w)) := by decide
theorem p_stateOf0 : ∀ w, w < 5 → f_Wr_stateOf (mI 0) (mI w) = some (mI 0) := by decide
theorem p_cell (a b : Nat) : f_Wr_cell (mI a) (mI b) = some (mI (4 * a + b)) := by
  show some ((mI 4 * mI a) + mI b) = _
  rw [mI_mul, mI_add]
theorem p_placeBit {n d : Nat} (hn : n < 3) (hd : d < 6) : f_Wr_placeBit (mI n) (mI d) = some (mI (36 - 2 * (3 * d + n + 1))) := by
  show some (mI 36 - (mI 2 * (((mI 3 * mI d) + mI n) + mI 1))) = _
  rw [mI_mul, mI_add, mI_add, mI_mul, mI_sub (by omega)]
theorem cl_lt {D lg : Nat} {fb : Int32} {fx : Nat → Int32} (hl : lg ≤ 4) : ∀ d t s t', cl_d D lg fb fx d t s = some t' → t < 13 → s < 4 → t' < 13 := by
  intro d t s t' h ht hs
  unfold cl_d at h
  split at h
  · split at h
    · cases h; omega
    · split at h
      · cases h
        refine so_lt hs ?_
        split <;> omega
      · cases h
  · cases h
theorem cl_sh {D lg : Nat} {fb : Int32} {fx : Nat → Int32} : ∀ d t s t', cl_d D lg fb fx d t s = some t' → s < 4 → sh t' = s := by
  intro d t s t' h hs
  unfold cl_d at h
  split at h
  · split at h
    · cases h; rename_i h0; rw [h0]; rfl
    · split at h
      · cases h
        refine sh_so hs ?_
        split <;> omega
      · cases h
  · cases h
theorem p_stateAfter {D lg d t s : Nat} {fb : Int32} {fx : Nat → Int32} (hD : D ≤ 6) (hd : d < D) (ht : t < 13) (hs : s < 4) (hl : lg ≤ 4) : f_Nu_stateAfter (mI d) (mI t) (mI s) fb (mI lg) (mI D) fx = some (enc (cl_d D lg fb fx d t s)) := by
  have hw := wk_le ht
  have hsh := sh_lt t
  have hb : f_Nu_stateAfter_b22 (mI d) (mI t) (mI s) fb (mI lg) (mI D) = some (enc (if okF fb (4 * sh t + s) = true then
    if s = 0 then some 0 else if wk t + 1 ≤ lg then some (so s (if wk t + 1 + (D - 1 - d) ≤ lg then 1 else wk t + 1)) else none
  else none)) := by
    unfold f_Nu_stateAfter_b22
    rw [p_shiftOf t ht, sb, p_cell, sb]
    have e0 : (mI s = 0) ↔ s = 0 := mI_inj (b := 0) (by omega) (by omega)
    have e1 : mI D - 1 - mI d = mI (D - 1 - d) := by
      show mI D - mI 1 - mI d = _
      rw [mI_sub (by omega), mI_sub (by omega)]
    by_cases hf : ((fb >>> (mI (4 * sh t + s) &&& 31)) &&& 1) = 0
    · rw [if_pos hf, if_pos (show okF fb (4 * sh t + s) = true from decide_eq_true hf)]
      by_cases hs0 : s = 0
      · rw [if_pos (e0.2 hs0), if_pos hs0]; rfl
      · rw [if_neg (fun h => hs0 (e0.1 h)), if_neg hs0, p_workedOf t ht, sb, mI_1]
        by_cases hw1 : wk t + 1 ≤ lg
        · rw [if_pos ((mI_le (by omega) (by omega)).2 hw1), if_pos hw1, e1, mI_add]
          by_cases hc : wk t + 1 + (D - 1 - d) ≤ lg
          · rw [if_neg (by rw [mI_lt (by omega) (by omega)]; omega), if_pos hc]
            show (f_Wr_stateOf (mI s) (mI 1)).bind _ = _
            rw [p_stateOf s hs 1 (by omega) (by omega), sb]; rfl
          · rw [if_pos (by rw [mI_lt (by omega) (by omega)]; omega), if_neg hc, p_stateOf s hs (wk t + 1) (by omega) (by omega), sb]; rfl
        · rw [if_neg (by rw [mI_le (by omega) (by omega)]; exact hw1), if_neg hw1]; rfl
    · rw [if_neg hf, if_neg (show ¬ okF fb (4 * sh t + s) = true from fun h => hf (of_decide_eq_true h))]; rfl
  unfold f_Nu_stateAfter cl_d
  rw [gi_n (by omega) (by omega), sb, sb, hb]
  unfold okX
  by_cases h1 : fx d = -1
  · rw [if_pos h1]
    simp [h1]
  · rw [if_neg h1]
    by_cases h2 : fx d = mI s
    · rw [if_pos h2]
      simp [h2]
    · rw [if_neg h2]
      simp [h1, h2]
      rfl
theorem p_penaltyOf {d t s : Nat} {sc pc : Nat → Int32} (hd : d < 6) (ht : t < 13) (hs : s < 4) : f_Nu_penaltyOf (mI d) (mI t) (mI s) sc pc = some (sc (4 * d + s) + pc (4 * sh t + s)) := by
  have := sh_lt t
  unfold f_Nu_penaltyOf
  rw [p_cell, sb, gi_n (by omega) (by omega), sb, p_shiftOf t ht, sb, p_cell, sb, gi_n (by omega) (by omega), sb]
/-! keys -/
theorem sm_b : ∀ b, b < 63 → (((mI b).toInt64 &&& 63).toBitVec.smod 64).toNat = b := by decide
theorem tp_b : ∀ b, b < 63 → BitVec.twoPow 64 b = BitVec.ofInt 64 (2 ^ b) := by decide
theorem jJ_shl (z : Int) {b : Nat} (h : b < 63) : jJ z <<< ((mI b).toInt64 &&& 63) = jJ (z * 2 ^ b) := by
  apply Int64.toBitVec_inj.1
  show (jJ z).toBitVec <<< (((mI b).toInt64 &&& 63).toBitVec.smod 64) = _
  rw [BitVec.shiftLeft_eq', sm_b b h, BitVec.shiftLeft_eq_mul_twoPow, tp_b b h]
  show BitVec.ofInt 64 z * BitVec.ofInt 64 (2 ^ b) = BitVec.ofInt 64 (z * 2 ^ b)
  rw [BitVec.ofInt_mul]
theorem jJ_shr {z : Int} {b : Nat} (h : b < 63) (h1 : -2 ^ 63 ≤ z) (h2 : z < 2 ^ 63) : jJ z >>> ((mI b).toInt64 &&& 63) = jJ (z / 2 ^ b) := by
  have hp : (0 : Int) < 2 ^ b := Int.pow_pos (by omega)
  have h0 : (1 : Int) ≤ 2 ^ b := by omega
  have l1 : -2 ^ 63 ≤ z / 2 ^ b := by
    rw [Int.le_ediv_iff_mul_le hp]
    have : (-2 ^ 63 : Int) * 2 ^ b ≤ -2 ^ 63 * 1 := Int.mul_le_mul_of_nonpos_left (by omega) h0
    omega
  have l2 : z / 2 ^ b < 2 ^ 63 := by
    rw [Int.ediv_lt_iff_lt_mul hp]
    have : (2 ^ 63 : Int) * 1 ≤ 2 ^ 63 * 2 ^ b := Int.mul_le_mul_of_nonneg_left h0 (by omega)
    omega
  apply Int64.toInt_inj.1
  rw [jJ_toInt l1 l2]
  show (BitVec.sshiftRight' (jJ z).toBitVec (((mI b).toInt64 &&& 63).toBitVec.smod 64)).toInt = _
  rw [BitVec.toInt_sshiftRight', sm_b b h, Int.shiftRight_eq_div_pow]
  show (jJ z).toInt / _ = _
  rw [jJ_toInt h1 h2]
  simp
theorem toI64 (x : Int32) : x.toInt64 = jJ x.toInt := by
  apply Int64.toInt_inj.1
  have h1 := Int32.le_toInt x
  have h2 := Int32.toInt_lt x
  rw [Int32.toInt_toInt64, jJ_toInt (by omega) (by omega)]
theorem p_stepKey {b s : Nat} {w : Int32} (hb : b < 63) (hs : s < 4) : f_Wr_stepKey (mI b) (mI s) w = some (jJ (w.toInt * 2 ^ 36 + s * 2 ^ b)) := by
  unfold f_Wr_stepKey
  rw [toI64 w, toI64 (mI s)]
  show some (jJ w.toInt <<< ((mI 36).toInt64 &&& 63) + jJ (mI s).toInt <<< ((mI b).toInt64 &&& 63)) = _
  rw [jJ_shl _ (by omega), jJ_shl _ hb, jJ_add, Int32.toInt_ofNat_of_lt (by omega)]
theorem p_weightOf {z : Int} (h1 : -2 ^ 63 ≤ z) (h2 : z < 2 ^ 63) : f_Wr_weightOf (jJ z) = some (iI (z / 2 ^ 36)) := by
  show some ((jJ z >>> ((mI 36).toInt64 &&& 63)).toInt32) = _
  rw [jJ_shr (by omega) h1 h2, Int64.toInt32_ofInt]
theorem p_shiftAt {z : Int} {b : Nat} (hb : b < 63) (h1 : -2 ^ 63 ≤ z) (h2 : z < 2 ^ 63) : f_Wr_shiftAt (jJ z) (mI b) = some (mI (z / 2 ^ b % 4).toNat) := by
  unfold f_Wr_shiftAt
  rw [jJ_shr hb h1 h2, Int64.toInt32_ofInt]
  congr 1
  generalize z / 2 ^ b = q
  apply Int32.toBitVec_inj.1
  apply BitVec.eq_of_toNat_eq
  show (BitVec.ofInt 32 q &&& 3#32).toNat = (BitVec.ofNat 32 (q % 4).toNat).toNat
  rw [BitVec.toNat_and, BitVec.toNat_ofInt]
  show _ &&& (2 ^ 2 - 1) = (q % 4).toNat % 2 ^ 32
  rw [Nat.and_two_pow_sub_one_eq_mod]
  omega
