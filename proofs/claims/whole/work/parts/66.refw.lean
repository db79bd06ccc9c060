/-! the reference's walk, as it runs -/
theorem sm_c : ∀ b, b < 31 → ((mI b &&& 31).toBitVec.smod 32).toNat = b := by decide
theorem mI_shr {c b : Nat} (hc : c < 2 ^ 31) (hb : b < 31) : mI c >>> (mI b &&& 31) = mI (c / 2 ^ b) := by
  have hle : c / 2 ^ b ≤ c := Nat.div_le_self _ _
  apply Int32.toInt_inj.1
  rw [Int32.toInt_ofNat_of_lt (by omega)]
  show (BitVec.sshiftRight' (mI c).toBitVec ((mI b &&& 31).toBitVec.smod 32)).toInt = _
  rw [BitVec.toInt_sshiftRight', sm_c b hb, Int.shiftRight_eq_div_pow]
  show (mI c).toInt / _ = _
  rw [Int32.toInt_ofNat_of_lt hc]
  simp
theorem mI_and3 (q : Nat) : mI q &&& 3 = mI (q % 4) := by
  apply Int32.toBitVec_inj.1
  apply BitVec.eq_of_toNat_eq
  show (BitVec.ofNat 32 q &&& 3#32).toNat = (q % 4) % 2 ^ 32
  rw [BitVec.toNat_and, BitVec.toNat_ofNat]
  show _ &&& (2 ^ 2 - 1) = _
  rw [Nat.and_two_pow_sub_one_eq_mod]
  omega
theorem p_shiftOfR {c d D : Nat} (hD : D ≤ 6) (hd : d < D) (hc : c < 2 ^ 31) : f_Wm_shiftOf (mI c) (mI d) (mI D) = some (mI (c / 4 ^ (D - (d + 1)) % 4)) := by
  show some ((mI c >>> ((mI 2 * ((mI D - mI 1) - mI d)) &&& 31)) &&& 3) = _
  rw [mI_sub (by omega), mI_sub (by omega), mI_mul, mI_shr hc (by omega), mI_and3, Nat.pow_mul, show D - 1 - d = D - (d + 1) by omega]
theorem p_allLines : ∀ D, D < 7 → f_Wm_allLines (mI D) = some (mI (4 ^ D)) := by decide
theorem div4 {c d D : Nat} (hd : d < D) : c / 4 ^ (D - (d + 1)) / 4 = c / 4 ^ (D - d) := by
  rw [Nat.div_div_eq_div_mul, ← Nat.pow_succ, show (D - (d + 1)).succ = D - d by omega]
theorem bI01 (b : Bool) : bI b = 0 ∨ bI b = 1 := by cases b <;> simp [bI]
theorem p_b130 {n l d s : Nat} {R P : Int32} {co pa : Nat → Int32} (b : Bool) (hn : n < 3) (hl : l < 4) (hd : d < 6) (hs : s < 4) : f_Wm_walk_b130 (mI n) (mI l) R (mI d) (mI s) (bI b) P co pa = some (.inl (mI s, R, mI (d + 1), bI b, P + (co (24 * n + (4 * d + s)) + pa (16 * n + (4 * l + s))))) := by
  unfold f_Wm_walk_b130
  rw [if_pos (bI01 b)]
  show ((gi 72 co (((mI 24 * mI n) + (mI 4 * mI d)) + mI s)).bind fun v154 => (gi 48 pa (((mI 16 * mI n) + (mI 4 * mI l)) + mI s)).bind fun v170 => some (Sum.inl (mI s, R, mI d + 1, bI b, P + (v154 + v170)))) = _
  rw [mI_mul, mI_mul, mI_add, mI_add, mI_mul, mI_mul, mI_add, mI_add, gi_n (by omega) (by omega), sb, gi_n (by omega) (by omega), sb, mI_1, Nat.add_assoc, Nat.add_assoc]
theorem p_b96 {n l d s r lg : Nat} {P : Int32} {fbA lgA co pa : Nat → Int32} (hn : n < 3) (hl : l < 4) (hd : d < 6) (hs : s < 4) (hr : r < 100) (hlg : lg < 100) (hla : lgA n = mI lg) : f_Wm_walk_b96 (mI n) (mI l) (mI r) (mI d) (mI s) P fbA lgA co pa = f_Wm_walk_b130 (mI n) (mI l) (mI r) (mI d) (mI s) (bI (okF (fbA n) (4 * l + s) && decide (r ≤ lg))) P co pa := by
  unfold f_Wm_walk_b96
  rw [gi_n hn (by omega), sb]
  show (if ((fbA n >>> (((mI 4 * mI l) + mI s) &&& 31)) &&& 1) = 0 then _ else _) = _
  rw [mI_mul, mI_add, gi_n hn (by omega), sb, hla]
  unfold okF
  by_cases h : ((fbA n >>> (mI (4 * l + s) &&& 31)) &&& 1) = 0
  · rw [if_pos h, decide_eq_true h, Bool.true_and]
    by_cases h2 : r ≤ lg
    · rw [if_neg (by rw [mI_lt (by omega) (by omega)]; omega), decide_eq_true h2]; rfl
    · rw [if_pos (by rw [mI_lt (by omega) (by omega)]; omega), decide_eq_false h2]; rfl
  · rw [if_neg h, decide_eq_false h, Bool.false_and]; rfl
theorem p_b73 {n l d s r lg : Nat} {P f : Int32} {fbA lgA co pa : Nat → Int32} (b : Bool) (hn : n < 3) (hl : l < 4) (hd : d < 6) (hs : s < 4) (hr : r < 100) (hlg : lg < 100) (hla : lgA n = mI lg) : f_Wm_walk_b73 (mI n) (mI l) (mI d) (mI s) f (mI r) (bI b) P fbA lgA co pa = f_Wm_walk_b130 (mI n) (mI l) (mI r) (mI d) (mI s) (bI (b && (okX f s && (okF (fbA n) (4 * l + s) && decide (r ≤ lg))))) P co pa := by
  unfold f_Wm_walk_b73
  cases b with
  | false => rw [if_pos (show bI false = 0 from rfl), Bool.false_and]; rfl
  | true =>
    rw [if_neg (show ¬ bI true = 0 by decide), Bool.true_and, p_b96 hn hl hd hs hr hlg hla]
    unfold okX
    by_cases h1 : f = -1
    · rw [if_pos h1, decide_eq_true h1, Bool.true_or, Bool.true_and]
    · rw [if_neg h1, decide_eq_false h1, Bool.false_or]
      by_cases h2 : f = mI s
      · rw [if_pos h2, decide_eq_true h2, Bool.true_and]
      · rw [if_neg h2, decide_eq_false h2, Bool.false_and]; rfl
theorem p_walkR {fu n c D lg s0 w0 : Nat} {fbA lgA sbA wbA co pa fi : Nat → Int32} (hfu : 6 < fu) (hn : n < 3) (hD : D ≤ 6) (hc : c < 4 ^ D) (hs0 : s0 < 4) (hw0 : w0 ≤ 4) (hlg : lg ≤ 4) (hsb : sbA n = mI s0) (hwb : wbA n = mI w0) (hla : lgA n = mI lg) :
    f_Wm_walk fu (mI n) (mI c) (mI D) fbA lgA sbA wbA co pa fi = some (bI (rf_ok s0 w0 lg (fbA n) (fun d => fi (6 * n + d)) D c), iI (rf_p s0 (fun k => co (24 * n + k)) (fun k => pa (16 * n + k)) D c)) := by
  have hc' : c < 2 ^ 31 := by
    have : 4 ^ D ≤ 4 ^ 6 := Nat.pow_le_pow_right (by omega) hD
    omega
  unfold f_Wm_walk
  rw [gi_n hn (by omega), sb, gi_n hn (by omega), sb, hsb, hwb]
  obtain ⟨r, h1, h2⟩ := iter_for (N := D) (b := f_Wm_walk_l28 (mI n) (mI c) (mI D) fbA lgA co pa fi) (fun d (a : Int32 × Int32 × Int32 × Int32 × Int32) => a = (mI (rf_l s0 d (c / 4 ^ (D - d))), mI (rf_r w0 d (c / 4 ^ (D - d))), mI d, bI (rf_ok s0 w0 lg (fbA n) (fun d => fi (6 * n + d)) d (c / 4 ^ (D - d))), iI (rf_p s0 (fun k => co (24 * n + k)) (fun k => pa (16 * n + k)) d (c / 4 ^ (D - d))))) (P := fun r => (r.2.2.2.1, r.2.2.2.2) = (bI (rf_ok s0 w0 lg (fbA n) (fun d => fi (6 * n + d)) D c), iI (rf_p s0 (fun k => co (24 * n + k)) (fun k => pa (16 * n + k)) D c)))
    (by
      rintro d a hd rfl
      have hdv := @div4 c d D hd
      have hl := rf_l_lt hs0 d (c / 4 ^ (D - d))
      have hr := rf_r_le hw0 d (c / 4 ^ (D - d))
      unfold f_Wm_walk_l28
      dsimp only
      rw [if_neg (by rw [mI_le (by omega) (by omega)]; omega), p_shiftOfR hD hd hc', sb]
      show ∃ a', ((gi 18 fi ((mI 6 * mI n) + mI d)).bind _) = _ ∧ _
      rw [mI_mul, mI_add, gi_n (by omega) (by omega), sb, mI_1]
      have hs : c / 4 ^ (D - (d + 1)) % 4 < 4 := Nat.mod_lt _ (by omega)
      have key : (if mI (c / 4 ^ (D - (d + 1)) % 4) = 0 then
          f_Wm_walk_b73 (mI n) (mI (rf_l s0 d (c / 4 ^ (D - d)))) (mI d) (mI (c / 4 ^ (D - (d + 1)) % 4)) (fi (6 * n + d)) (0 : Int32) (bI (rf_ok s0 w0 lg (fbA n) (fun d => fi (6 * n + d)) d (c / 4 ^ (D - d)))) (iI (rf_p s0 (fun k => co (24 * n + k)) (fun k => pa (16 * n + k)) d (c / 4 ^ (D - d)))) fbA lgA co pa
        else f_Wm_walk_b73 (mI n) (mI (rf_l s0 d (c / 4 ^ (D - d)))) (mI d) (mI (c / 4 ^ (D - (d + 1)) % 4)) (fi (6 * n + d)) (mI (rf_r w0 d (c / 4 ^ (D - d)) + 1)) (bI (rf_ok s0 w0 lg (fbA n) (fun d => fi (6 * n + d)) d (c / 4 ^ (D - d)))) (iI (rf_p s0 (fun k => co (24 * n + k)) (fun k => pa (16 * n + k)) d (c / 4 ^ (D - d)))) fbA lgA co pa)
        = f_Wm_walk_b73 (mI n) (mI (rf_l s0 d (c / 4 ^ (D - d)))) (mI d) (mI (c / 4 ^ (D - (d + 1)) % 4)) (fi (6 * n + d)) (mI (rf_r w0 (d + 1) (c / 4 ^ (D - (d + 1))))) (bI (rf_ok s0 w0 lg (fbA n) (fun d => fi (6 * n + d)) d (c / 4 ^ (D - d)))) (iI (rf_p s0 (fun k => co (24 * n + k)) (fun k => pa (16 * n + k)) d (c / 4 ^ (D - d)))) fbA lgA co pa := by
        have e0 : (mI (c / 4 ^ (D - (d + 1)) % 4) = 0) ↔ c / 4 ^ (D - (d + 1)) % 4 = 0 := mI_inj (b := 0) (by omega) (by omega)
        have eR : rf_r w0 (d + 1) (c / 4 ^ (D - (d + 1))) = if c / 4 ^ (D - (d + 1)) % 4 = 0 then 0 else rf_r w0 d (c / 4 ^ (D - (d + 1)) / 4) + 1 := rfl
        rw [hdv] at eR
        by_cases h0 : c / 4 ^ (D - (d + 1)) % 4 = 0
        · rw [if_pos (e0.2 h0), eR, if_pos h0]; rfl
        · rw [if_neg (fun h => h0 (e0.1 h)), eR, if_neg h0]
      refine ⟨_, key.trans ((p_b73 (lg := lg) _ hn hl (by omega) hs ?_ (by omega) hla).trans (p_b130 _ hn hl (by omega) hs)), ?_⟩
      · have := rf_r_le hw0 (d + 1) (c / 4 ^ (D - (d + 1))); omega
      · have eO : rf_ok s0 w0 lg (fbA n) (fun d => fi (6 * n + d)) (d + 1) (c / 4 ^ (D - (d + 1))) = (rf_ok s0 w0 lg (fbA n) (fun d => fi (6 * n + d)) d (c / 4 ^ (D - (d + 1)) / 4) && (okX (fi (6 * n + d)) (c / 4 ^ (D - (d + 1)) % 4) && (okF (fbA n) (4 * rf_l s0 d (c / 4 ^ (D - (d + 1)) / 4) + c / 4 ^ (D - (d + 1)) % 4) && decide (rf_r w0 (d + 1) (c / 4 ^ (D - (d + 1))) ≤ lg)))) := rfl
        have eP : rf_p s0 (fun k => co (24 * n + k)) (fun k => pa (16 * n + k)) (d + 1) (c / 4 ^ (D - (d + 1))) = rf_p s0 (fun k => co (24 * n + k)) (fun k => pa (16 * n + k)) d (c / 4 ^ (D - (d + 1)) / 4) + ((co (24 * n + (4 * d + c / 4 ^ (D - (d + 1)) % 4))).toInt + (pa (16 * n + (4 * rf_l s0 d (c / 4 ^ (D - (d + 1)) / 4) + c / 4 ^ (D - (d + 1)) % 4))).toInt) := rfl
        rw [eO, eP, hdv, ← iI_add, ← iI_add]
        show _ = (_, _, _, _, _ + (Int32.ofInt (Int32.toInt _) + Int32.ofInt (Int32.toInt _)))
        rw [Int32.ofInt_toInt, Int32.ofInt_toInt]
        rfl)
    (by
      rintro a rfl
      unfold f_Wm_walk_l28
      dsimp only
      rw [if_pos (by rw [mI_le (by omega) (by omega)]; omega), Nat.sub_self, Nat.pow_zero, Nat.div_one]
      exact ⟨_, rfl, rfl⟩)
    fu 0 (mI s0, mI w0, mI 0, 1, 0) (by omega) (by omega) rfl
  show (iter _ fu (mI s0, mI w0, mI 0, 1, 0)).bind _ = _
  rw [h1, sb, h2]
