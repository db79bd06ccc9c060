/-! the reference's goBack, whole -/
def hs (x : Nat → Nat) : Nat → Nat
  | 0 => 0
  | n + 1 => 13 * hs x n + x n
theorem sr_lt {s w : Nat} (hs : s < 4) (hw : w ≤ 4) : sr s w < 13 := by unfold sr; split <;> omega
theorem hs_lt {x : Nat → Nat} (h : ∀ n, x n < 13) : ∀ n, n ≤ 3 → hs x n < 2197 := by
  intro n hn
  have h0 := h 0
  have h1 := h 1
  have h2 := h 2
  have : n = 0 ∨ n = 1 ∨ n = 2 ∨ n = 3 := by omega
  rcases this with rfl | rfl | rfl | rfl <;> simp only [hs] <;> omega
theorem p_startState {fu : Nat} {sB wB : Nat → Nat} {bs bw : Nat → Int32} (hfu : 3 < fu) (h1 : ∀ n, n < 3 → bs n = mI (sB n)) (h2 : ∀ n, n < 3 → bw n = mI (wB n)) (h3 : ∀ n, n < 3 → sB n < 4) : f_Wm_startState fu bs bw = some (mI (169 * sr (sB 0) (wB 0) + 13 * sr (sB 1) (wB 1) + sr (sB 2) (wB 2))) := by
  obtain ⟨r, g1, g2⟩ := iter_for (N := 3) (b := f_Wm_startState_l4 bs bw) (fun n (s : Int32 × Int32) => s.2 = mI n ∧ s.1 = mI (hs (fun n => sr (sB n) (wB n)) n)) (P := fun (r : Int32 × Int32) => r.1 = mI (hs (fun n => sr (sB n) (wB n)) 3))
    (by
      rintro n ⟨s1, s2⟩ hn ⟨rfl, rfl⟩
      unfold f_Wm_startState_l4 f_Wm_startState_b43
      dsimp only
      have e0 : (mI (sB n) = 0) ↔ sB n = 0 := mI_inj (b := 0) (by have := h3 n hn; omega) (by omega)
      rw [if_neg (show ¬ (3 : Int32) ≤ mI n from fun q => absurd ((mI_le (a := 3) (by omega) (by omega)).1 q) (by omega)), gi_n hn (by omega), sb, sb, gi_n hn (by omega), sb, h1 n hn, h2 n hn, mI_1]
      have e1 : ∀ x, 13 * mI (hs (fun n => sr (sB n) (wB n)) n) + mI x = mI (13 * hs (fun n => sr (sB n) (wB n)) n + x) := by
        intro x
        show mI 13 * _ + _ = _
        rw [mI_mul, mI_add]
      by_cases h : sB n = 0
      · rw [if_pos (e0.2 h)]
        refine ⟨_, rfl, rfl, ?_⟩
        show 13 * mI (hs (fun n => sr (sB n) (wB n)) n) + mI 0 = _
        rw [e1]
        show _ = mI (13 * _ + sr (sB n) (wB n))
        unfold sr
        rw [if_pos h]
      · rw [if_neg (fun q => h (e0.1 q))]
        refine ⟨_, rfl, rfl, ?_⟩
        have e2 : 4 * (mI (sB n) - 1) + mI (wB n) = mI (4 * (sB n - 1) + wB n) := by
          show mI 4 * (mI (sB n) - mI 1) + mI (wB n) = _
          rw [mI_sub (by omega), mI_mul, mI_add]
        dsimp only
        have e3 : sr (sB n) (wB n) = 4 * (sB n - 1) + wB n := by unfold sr; rw [if_neg h]
        rw [e2, e1, ← e3]; rfl)
    (by
      rintro ⟨s1, s2⟩ ⟨rfl, rfl⟩
      refine ⟨(mI (hs (fun n => sr (sB n) (wB n)) 3), mI 3), ?_, rfl⟩
      unfold f_Wm_startState_l4
      dsimp only
      rw [if_pos (show (3 : Int32) ≤ mI 3 from (mI_le (a := 3) (by omega) (by omega)).2 (by omega))])
    fu 0 (mI 0, mI 0) (by omega) (by omega) ⟨rfl, rfl⟩
  unfold f_Wm_startState
  show (iter _ fu (mI 0, mI 0)).bind _ = _
  rw [g1, sb, g2]
  congr 2
  show 13 * (13 * (13 * 0 + sr (sB 0) (wB 0)) + sr (sB 1) (wB 1)) + sr (sB 2) (wB 2) = _
  omega
theorem p_isUsual {n x lg : Nat} {lgA : Nat → Int32} (hn : n < 3) (hx : x < 13) (hlg : lg ≤ 4) (hla : lgA n = mI lg) : f_Wm_isUsual (mI n) (mI x) lgA = some (bI (us lg x)) := by
  unfold f_Wm_isUsual f_Wm_isUsual_b18
  have ex : (mI x = 0) ↔ x = 0 := mI_inj (b := 0) (by omega) (by omega)
  by_cases h0 : x = 0
  · rw [if_pos (ex.2 h0)]
    unfold us
    rw [decide_eq_true h0]; rfl
  · rw [if_neg (fun q => h0 (ex.1 q)), gi_n hn (by omega), sb, hla]
    have e : (mI x - 1) - (mI x - 1) / 4 * 4 = mI ((x - 1) % 4) := by
      show (mI x - mI 1) - (mI x - mI 1) / mI 4 * mI 4 = _
      rw [mI_sub (by omega), mI_div (by omega) (by omega), mI_mul, mI_sub (by omega)]
      congr 1
      omega
    rw [e]
    unfold us rr
    rw [decide_eq_false h0, Bool.false_or, if_neg h0]
    by_cases h : lg ≤ (x - 1) % 4
    · rw [if_pos ((mI_le (by omega) (by omega)).2 h), decide_eq_false (by omega)]; rfl
    · rw [if_neg (fun q => h ((mI_le (by omega) (by omega)).1 q)), decide_eq_true (by omega)]; rfl
theorem q_l24 {fu d D a b c : Nat} {lgN sB wB : Nat → Nat} {fbA lgA bs bw fi co pa pl nd rest af we cv : Nat → Int32} {rep : Int32} (hfu : 4 < fu) (hD : D ≤ 6) (hd : d < D) (ha : a < 13) (hb : b < 13) (hc : c < 13) (hlg : ∀ n, n < 3 → lgN n ≤ 4) (hla : ∀ n, n < 3 → lgA n = mI (lgN n)) (h1 : ∀ n, n < 3 → bs n = mI (sB n)) (h2 : ∀ n, n < 3 → bw n = mI (wB n)) (h3 : ∀ n, n < 3 → sB n < 4) (h4 : ∀ n, n < 3 → wB n ≤ 4) (hco : Lim 72 99 co) (hpa : Lim 48 99 pa) (hp : Prep lgN fbA fi co pa pl nd rep d af we cv) (hr : RO (rS lgN fbA fi nd) (rV rep pl co pa) lgN (169 * sr (sB 0) (wB 0) + 13 * sr (sB 1) (wB 1) + sr (sB 2) (wB 2)) D (d + 1) rest) :
    f_Wm_goBack_l24 fu (mI d) (mI a) (mI b) lgA bs bw af we cv (mI c, rest) = some (.inl (mI (c + 1), upd rest (2197 * d + (169 * a + 13 * b + c)) (if ask lgN (169 * sr (sB 0) (wB 0) + 13 * sr (sB 1) (wB 1) + sr (sB 2) (wB 2)) d (169 * a + 13 * b + c) = true then iI (rs (rS lgN fbA fi nd) (rV rep pl co pa) D (D - d) (169 * a + 13 * b + c)) else iI FAR))) := by
  obtain ⟨s0, s1, s2⟩ := st_tri ha hb hc
  have hst := p_startState (fu := fu) (by omega) h1 h2 h3
  have hL := lh_of hD hd ha hb hc hlg hco hpa hp hr
  have ht0 : 169 * sr (sB 0) (wB 0) + 13 * sr (sB 1) (wB 1) + sr (sB 2) (wB 2) < 2197 := by
    have q0 := sr_lt (h3 0 (by omega)) (h4 0 (by omega))
    have q1 := sr_lt (h3 1 (by omega)) (h4 1 (by omega))
    have q2 := sr_lt (h3 2 (by omega)) (h4 2 (by omega))
    omega
  generalize 169 * sr (sB 0) (wB 0) + 13 * sr (sB 1) (wB 1) + sr (sB 2) (wB 2) = t0 at *
  have eu : (((2197 * mI d) + (169 * mI a)) + (13 * mI b)) + mI c = mI (2197 * d + (169 * a + 13 * b + c)) := by
    show (((mI 2197 * mI d) + (mI 169 * mI a)) + (mI 13 * mI b)) + mI c = _
    rw [mI_mul, mI_mul, mI_mul, mI_add, mI_add, mI_add]
    congr 1
    omega
  have hlt : 2197 * d + (169 * a + 13 * b + c) < 15379 := by omega
  have hb0 : f_Wm_goBack_b96 fu (mI d) (mI a) (mI b) (mI c) 0 rest af we cv = some (.inl (mI (c + 1), upd rest (2197 * d + (169 * a + 13 * b + c)) (iI FAR))) := by
    unfold f_Wm_goBack_b96 f_Wm_goBack_b140
    rw [if_pos rfl, eu, si_n hlt (by omega), sb, mI_1, FAR_iI]
  have hb1 : f_Wm_goBack_b96 fu (mI d) (mI a) (mI b) (mI c) 1 rest af we cv = some (.inl (mI (c + 1), upd rest (2197 * d + (169 * a + 13 * b + c)) (iI (rs (rS lgN fbA fi nd) (rV rep pl co pa) D (D - d) (169 * a + 13 * b + c))))) := by
    unfold f_Wm_goBack_b96 f_Wm_goBack_b140
    rw [if_neg (by decide), eu]
    obtain ⟨v, v1, v2⟩ := p_lightest hL hfu
    rw [v1, sb, si_n hlt (by omega), sb, mI_1]
    have hl := (rs_all (S := rS lgN fbA fi nd) (W := rV rep pl co pa) hD (fun d t k hd hk => rV_bd hco hpa (by omega) hk) (D - d) (by omega) (169 * a + 13 * b + c)).2 (D - (d + 1)) (by omega)
    rw [show D - (D - d) = d by omega] at hl
    have := lm_uniq v2 hl
    rw [this]
  have hb5 : f_Wm_goBack_b95 fu (mI d) (mI a) (mI b) (mI c) rest af we cv = some (.inl (mI (c + 1), upd rest (2197 * d + (169 * a + 13 * b + c)) (iI FAR))) := hb0
  unfold f_Wm_goBack_l24
  dsimp only
  rw [if_neg (show ¬ (13 : Int32) ≤ mI c from fun q => absurd ((mI_le (a := 13) (by omega) (by omega)).1 q) (by omega)), hst, sb, hb0, hb1, hb5]
  have ed : (mI d = 0) ↔ d = 0 := mI_inj (b := 0) (by omega) (by omega)
  have et : ((169 * mI a) + (13 * mI b)) + mI c = mI (169 * a + 13 * b + c) := by
    show ((mI 169 * mI a) + (mI 13 * mI b)) + mI c = _
    rw [mI_mul, mI_mul, mI_add, mI_add]
  unfold ask
  by_cases h0 : d = 0
  · rw [if_pos (ed.2 h0), if_pos h0, et]
    by_cases hq : 169 * a + 13 * b + c = t0
    · rw [if_pos (by rw [hq]), decide_eq_true hq, if_pos rfl]
    · rw [if_neg (fun q => hq ((mI_inj (by omega) (by omega)).1 q)), decide_eq_false hq, if_neg (by decide)]
  · rw [if_neg (fun q => h0 (ed.1 q)), if_neg h0, s0, s1, s2]
    show ((f_Wm_isUsual (mI 0) (mI a) lgA).bind fun v66 => if v66 = 0 then _ else (f_Wm_isUsual (mI 1) (mI b) lgA).bind fun v75 => if v75 = 0 then _ else (f_Wm_isUsual (mI 2) (mI c) lgA).bind fun v85 => if v85 = 0 then _ else _) = _
    rw [p_isUsual (by omega) ha (hlg 0 (by omega)) (hla 0 (by omega)), sb, p_isUsual (by omega) hb (hlg 1 (by omega)) (hla 1 (by omega)), sb, p_isUsual (by omega) hc (hlg 2 (by omega)) (hla 2 (by omega)), sb]
    cases us (lgN 0) a
    · rw [if_pos (show bI false = 0 from rfl), if_neg (by simp)]
    · rw [if_neg (show ¬ bI true = 0 by decide)]
      cases us (lgN 1) b
      · rw [if_pos (show bI false = 0 from rfl), if_neg (by simp)]
      · rw [if_neg (show ¬ bI true = 0 by decide)]
        cases us (lgN 2) c
        · rw [if_pos (show bI false = 0 from rfl), if_neg (by simp)]
        · rw [if_neg (show ¬ bI true = 0 by decide), if_pos (by decide)]
