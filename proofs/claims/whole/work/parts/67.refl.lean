/-! the reference's loops over all lines -/
theorem p_noNurse : ∀ n, n < 3 → f_Wm_noNurse (mI n) = some 0 := by decide
theorem pow46 {D : Nat} (hD : D ≤ 6) : 4 ^ D ≤ 4096 := by
  have : 4 ^ D ≤ 4 ^ 6 := Nat.pow_le_pow_right (by omega) hD
  omega
theorem p_linesR {fu n D lg s0 w0 : Nat} {l0 p0 : Int32} {fbA lgA sbA wbA co pa fi : Nat → Int32} (hfu : 4096 < fu) (hn : n < 3) (hD : D ≤ 6) (hs0 : s0 < 4) (hw0 : w0 ≤ 4) (hlg : lg ≤ 4) (hsb : sbA n = mI s0) (hwb : wbA n = mI w0) (hla : lgA n = mI lg) :
    ∃ l1 p1, f_Wm_lines fu (mI n) (mI D) l0 p0 fbA lgA sbA wbA co pa fi = some (mI (cnt (rf_ok s0 w0 lg (fbA n) (fun d => fi (6 * n + d)) D) (4 ^ D)), 0, l1, p1) := by
  have h4 := pow46 hD
  unfold f_Wm_lines
  rw [p_noNurse n hn, sb, if_pos rfl]
  unfold f_Wm_lines_b13
  rw [if_pos rfl]
  obtain ⟨r, h1, h2⟩ := iter_for (N := 4 ^ D) (b := f_Wm_lines_l29 fu (mI n) (mI D) fbA lgA sbA wbA co pa fi) (fun k (a : Int32 × Int32 × Int32 × Int32) => a.1 = mI (cnt (rf_ok s0 w0 lg (fbA n) (fun d => fi (6 * n + d)) D) k) ∧ a.2.1 = mI k) (P := fun r => r.1 = mI (cnt (rf_ok s0 w0 lg (fbA n) (fun d => fi (6 * n + d)) D) (4 ^ D)))
    (by
      rintro k ⟨x, i, y, z⟩ hk ⟨e1, e2⟩
      dsimp only at e1 e2
      subst e1; subst e2
      unfold f_Wm_lines_l29
      dsimp only
      rw [p_allLines D (by omega), sb, if_neg (by rw [mI_le (by omega) (by omega)]; omega), p_walkR (by omega) hn hD hk hs0 hw0 hlg hsb hwb hla, sb]
      dsimp only
      unfold f_Wm_lines_b56
      cases hb : rf_ok s0 w0 lg (fbA n) (fun d => fi (6 * n + d)) D k with
      | false =>
        rw [if_pos (show bI false = 0 from rfl)]
        refine ⟨_, rfl, ?_, ?_⟩
        · show _ = mI (cnt _ k + if _ = true then 1 else 0)
          rw [hb]
          show mI _ + mI 0 = _
          rw [mI_add]; rfl
        · show mI k + 1 = _
          rw [mI_1]
      | true =>
        rw [if_neg (show ¬ bI true = 0 by decide)]
        refine ⟨_, rfl, ?_, ?_⟩
        · show _ = mI (cnt _ k + if _ = true then 1 else 0)
          rw [hb]
          show mI _ + mI 1 = _
          rw [mI_add]; rfl
        · show mI k + 1 = _
          rw [mI_1])
    (by
      rintro ⟨x, i, y, z⟩ ⟨e1, e2⟩
      dsimp only at e2
      subst e2
      refine ⟨(x, mI (4 ^ D), y, z), ?_, e1⟩
      unfold f_Wm_lines_l29
      dsimp only
      rw [p_allLines D (by omega), sb, if_pos (by rw [mI_le (by omega) (by omega)]; omega)])
    fu 0 (mI 0, mI 0, l0, p0) (Nat.zero_le _) (by omega) ⟨rfl, rfl⟩
  refine ⟨r.2.2.1, r.2.2.2, ?_⟩
  show (iter _ fu (mI 0, mI 0, l0, p0)).bind _ = _
  rw [h1, sb, h2]
theorem p_priceOfR {fu c D : Nat} {pr : Nat → Int32} (hfu : 6 < fu) (hD : D ≤ 6) (hc : c < 4 ^ D) : f_Wm_priceOf fu (mI c) (mI D) pr = some (iI (rf_q pr D c)) := by
  have h4 := pow46 hD
  unfold f_Wm_priceOf
  obtain ⟨r, h1, h2⟩ := iter_for (N := D) (b := f_Wm_priceOf_l4 (mI c) (mI D) pr) (fun d (a : Int32 × Int32) => a.1 = iI (rf_q pr d (c / 4 ^ (D - d))) ∧ a.2 = mI d) (P := fun r => r.1 = iI (rf_q pr D c))
    (by
      rintro d ⟨x, i⟩ hd ⟨e1, e2⟩
      dsimp only at e1 e2
      subst e1; subst e2
      have hdv := @div4 c d D hd
      have hs : c / 4 ^ (D - (d + 1)) % 4 < 4 := Nat.mod_lt _ (by omega)
      unfold f_Wm_priceOf_l4
      dsimp only
      rw [if_neg (by rw [mI_le (by omega) (by omega)]; omega), p_shiftOfR hD hd (by omega), sb]
      show ∃ a', ((gi 24 pr ((mI 4 * mI d) + mI _)).bind _) = _ ∧ _
      rw [mI_mul, mI_add, gi_n (by omega) (by omega), sb, mI_1]
      refine ⟨_, rfl, ?_, rfl⟩
      have e : rf_q pr (d + 1) (c / 4 ^ (D - (d + 1))) = rf_q pr d (c / 4 ^ (D - (d + 1)) / 4) + (pr (4 * d + c / 4 ^ (D - (d + 1)) % 4)).toInt := rfl
      rw [e, hdv, ← iI_add]
      show _ = _ + Int32.ofInt (Int32.toInt _)
      rw [Int32.ofInt_toInt])
    (by
      rintro ⟨x, i⟩ ⟨e1, e2⟩
      dsimp only at e1 e2
      subst e2
      refine ⟨(x, mI D), ?_, ?_⟩
      · unfold f_Wm_priceOf_l4
        dsimp only
        rw [if_pos (by rw [mI_le (by omega) (by omega)]; omega)]
      · rw [e1, Nat.sub_self, Nat.pow_zero, Nat.div_one])
    fu 0 (mI 0, mI 0) (by omega) (by omega) ⟨rfl, rfl⟩
  show (iter _ fu (mI 0, mI 0)).bind _ = _
  rw [h1, sb, h2]
theorem rf_p_bd {s0 : Nat} {sc pc : Nat → Int32} (hs0 : s0 < 4) (hsc : Lim 24 99 sc) (hpc : Lim 16 99 pc) : ∀ d, d ≤ 6 → ∀ c, 0 ≤ rf_p s0 sc pc d c ∧ rf_p s0 sc pc d c ≤ 198 * d := by
  intro d
  induction d with
  | zero => intro _ c; exact ⟨Int.le_refl _, Int.le_refl _⟩
  | succ d ih =>
    intro hd c
    have h1 := ih (by omega) (c / 4)
    have h2 := hsc (4 * d + c % 4) (by omega)
    have h3 := hpc (4 * rf_l s0 d (c / 4) + c % 4) (by have := rf_l_lt hs0 d (c / 4); omega)
    unfold rf_p
    omega
theorem rf_q_bd {q : Nat → Int32} (hq : Lim 24 999 q) : ∀ d, d ≤ 6 → ∀ c, 0 ≤ rf_q q d c ∧ rf_q q d c ≤ 999 * d := by
  intro d
  induction d with
  | zero => intro _ c; exact ⟨Int.le_refl _, Int.le_refl _⟩
  | succ d ih =>
    intro hd c
    have h1 := ih (by omega) (c / 4)
    have h2 := hq (4 * d + c % 4) (by omega)
    unfold rf_q
    omega
theorem rf_g_bd {n : Nat} (hn : n < 3) : ∀ d, d < 6 → ∀ c, 0 ≤ rf_g n (d + 1) c ∧ rf_g n (d + 1) c + 2 ^ (36 - 2 * (3 * d + n + 1)) ≤ 2 ^ 36 := by
  intro d
  induction d with
  | zero =>
    intro _ c
    unfold rf_g rf_g
    have h4 := @pow34 n 0
    have hs : c % 4 < 4 := Nat.mod_lt _ (by omega)
    generalize (2 : Int) ^ (36 - 2 * (3 * 0 + n + 1)) = p at *
    generalize c % 4 = x at *
    have hx : x = 0 ∨ x = 1 ∨ x = 2 ∨ x = 3 := by omega
    rcases hx with rfl | rfl | rfl | rfl <;> simp <;> omega
  | succ d ih =>
    intro hd c
    have h1 := ih (by omega) (c / 4)
    have e1 : rf_g n (d + 1 + 1) c = rf_g n (d + 1) (c / 4) + ((c % 4 : Nat) : Int) * 2 ^ (36 - 2 * (3 * (d + 1) + n + 1)) := rfl
    have e2 : (2 : Int) ^ (36 - 2 * (3 * d + n + 1)) = 2 ^ (36 - 2 * (3 * (d + 1) + n + 1)) * 64 := by
      rw [show 36 - 2 * (3 * d + n + 1) = 36 - 2 * (3 * (d + 1) + n + 1) + 6 by omega, Int.pow_add]
      rfl
    rw [e1]
    rw [e2] at h1
    have h4 := @pow34 n (d + 1)
    have hs : c % 4 < 4 := Nat.mod_lt _ (by omega)
    generalize (2 : Int) ^ (36 - 2 * (3 * (d + 1) + n + 1)) = p at *
    generalize c % 4 = x at *
    have hx : x = 0 ∨ x = 1 ∨ x = 2 ∨ x = 3 := by omega
    rcases hx with rfl | rfl | rfl | rfl <;> simp <;> omega
/-- the reference's choice of a line: the first one of the least weight -/
def Pick (P : Nat → Bool) (K : Nat → Int) (k : Nat) (pick worth : Int32) : Prop := (pick = -1 ∧ ∀ c, c < k → P c = false) ∨ ∃ c, c < k ∧ P c = true ∧ pick = mI c ∧ worth = iI (K c) ∧ ∀ c', c' < k → P c' = true → K c ≤ K c' ∧ (c' < c → K c < K c')
theorem p_pricedLineR {fu n D lg s0 w0 : Nat} {l0 p0 : Int32} {fbA lgA sbA wbA co pa fi pr : Nat → Int32} (hfu : 4096 < fu) (hn : n < 3) (hD : D ≤ 6) (hs0 : s0 < 4) (hw0 : w0 ≤ 4) (hlg : lg ≤ 4) (hsb : sbA n = mI s0) (hwb : wbA n = mI w0) (hla : lgA n = mI lg) (hsc : Lim 24 99 (fun k => co (24 * n + k))) (hpc : Lim 16 99 (fun k => pa (16 * n + k))) (hq : Lim 24 999 pr) :
    ∃ pick worth l1 p1, f_Wm_pricedLine fu (mI n) (mI D) l0 p0 fbA lgA sbA wbA co pa fi pr = some (pick, l1, p1) ∧ Pick (rf_ok s0 w0 lg (fbA n) (fun d => fi (6 * n + d)) D) (fun c => rf_p s0 (fun k => co (24 * n + k)) (fun k => pa (16 * n + k)) D c - rf_q pr D c) (4 ^ D) pick worth := by
  have h4 := pow46 hD
  unfold f_Wm_pricedLine
  obtain ⟨r, h1, h2⟩ := iter_for (N := 4 ^ D) (b := f_Wm_pricedLine_l7 fu (mI n) (mI D) fbA lgA sbA wbA co pa fi pr) (fun k (a : Int32 × Int32 × Int32 × Int32 × Int32) => a.2.2.1 = mI k ∧ Pick (rf_ok s0 w0 lg (fbA n) (fun d => fi (6 * n + d)) D) (fun c => rf_p s0 (fun k => co (24 * n + k)) (fun k => pa (16 * n + k)) D c - rf_q pr D c) k a.1 a.2.1) (P := fun r => Pick (rf_ok s0 w0 lg (fbA n) (fun d => fi (6 * n + d)) D) (fun c => rf_p s0 (fun k => co (24 * n + k)) (fun k => pa (16 * n + k)) D c - rf_q pr D c) (4 ^ D) r.1 r.2.1)
    (by
      rintro k ⟨x, w, i, y, z⟩ hk ⟨e1, e2⟩
      dsimp only at e1 e2
      subst e1
      unfold f_Wm_pricedLine_l7
      dsimp only
      rw [p_allLines D (by omega), sb, if_neg (by rw [mI_le (by omega) (by omega)]; omega), p_walkR (by omega) hn hD hk hs0 hw0 hlg hsb hwb hla, sb, p_priceOfR (by omega) hD hk, sb]
      dsimp only
      rw [iI_sub]
      unfold f_Wm_pricedLine_b53 f_Wm_pricedLine_b59
      have bk := fun c => rf_p_bd hs0 hsc hpc D hD c
      have bq := fun c => rf_q_bd hq D hD c
      generalize rf_ok s0 w0 lg (fbA n) (fun d => fi (6 * n + d)) D = P at *
      generalize rf_p s0 (fun k => co (24 * n + k)) (fun k => pa (16 * n + k)) D = Kp at *
      generalize rf_q pr D = Kq at *
      cases hb : P k with
      | false =>
        rw [if_pos (show bI false = 0 from rfl)]
        refine ⟨_, rfl, mI_1 k, ?_⟩
        rcases e2 with ⟨a1, a2⟩ | ⟨c, a1, a2, a3, a4, a5⟩
        · refine .inl ⟨a1, fun c hc => ?_⟩
          by_cases e : c = k
          · rw [e]; exact hb
          · exact a2 c (by omega)
        · refine .inr ⟨c, by omega, a2, a3, a4, fun c' hc' hp => ?_⟩
          by_cases e : c' = k
          · rw [e, hb] at hp; cases hp
          · exact a5 c' (by omega) hp
      | true =>
        rw [if_neg (show ¬ bI true = 0 by decide)]
        rcases e2 with ⟨a1, a2⟩ | ⟨c, a1, a2, a3, a4, a5⟩
        · rw [if_pos (by rw [a1]; decide)]
          refine ⟨_, rfl, mI_1 k, .inr ⟨k, by omega, hb, rfl, rfl, fun c' hc' hp => ?_⟩⟩
          by_cases e : c' = k
          · subst e; exact ⟨Int.le_refl _, fun h => by omega⟩
          · rw [a2 c' (by omega)] at hp; cases hp
        · have hn0 : ¬ mI c < 0 := fun h => absurd ((mI_lt (b := 0) (by omega) (by omega)).1 h) (by omega)
          rw [a3, a4, if_neg hn0]
          have q1 := bk c
          have q2 := bq c
          have q3 := bk k
          have q4 := bq k
          by_cases hle : Kp c - Kq c ≤ Kp k - Kq k
          · rw [if_pos ((iI_le (by omega) (by omega) (by omega) (by omega)).2 hle)]
            refine ⟨_, rfl, mI_1 k, .inr ⟨c, by omega, a2, rfl, rfl, fun c' hc' hp => ?_⟩⟩
            by_cases e : c' = k
            · subst e; exact ⟨hle, fun h => by omega⟩
            · exact a5 c' (by omega) hp
          · rw [if_neg (fun h => hle ((iI_le (by omega) (by omega) (by omega) (by omega)).1 h))]
            refine ⟨_, rfl, mI_1 k, .inr ⟨k, by omega, hb, rfl, rfl, fun c' hc' hp => ?_⟩⟩
            by_cases e : c' = k
            · subst e; exact ⟨Int.le_refl _, fun h => by omega⟩
            · have := (a5 c' (by omega) hp).1
              dsimp only at this ⊢
              exact ⟨by omega, fun _ => by omega⟩)
    (by
      rintro ⟨x, w, i, y, z⟩ ⟨e1, e2⟩
      dsimp only at e1
      subst e1
      refine ⟨(x, w, mI (4 ^ D), y, z), ?_, e2⟩
      unfold f_Wm_pricedLine_l7
      dsimp only
      rw [p_allLines D (by omega), sb, if_pos (by rw [mI_le (by omega) (by omega)]; omega)])
    fu 0 (-1, mI 0, mI 0, l0, p0) (Nat.zero_le _) (by omega) ⟨rfl, .inl ⟨rfl, fun c hc => absurd hc (by omega)⟩⟩
  refine ⟨r.1, r.2.1, r.2.2.2.1, r.2.2.2.2, ?_, h2⟩
  show (iter _ fu (-1, mI 0, mI 0, l0, p0)).bind _ = _
  rw [h1, sb]
