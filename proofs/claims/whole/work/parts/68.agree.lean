/-! class and reference agree on lines -/
theorem g_bd {n D : Nat} (hn : n < 3) (hD1 : 1 ≤ D) (hD : D ≤ 6) (c : Nat) : 0 ≤ rf_g n D c ∧ rf_g n D c < 2 ^ 36 := by
  obtain ⟨d, rfl⟩ : ∃ d, D = d + 1 := ⟨D - 1, by omega⟩
  have h := rf_g_bd hn d (by omega) c
  have hp : (0 : Int) < 2 ^ (36 - 2 * (3 * d + n + 1)) := Int.pow_pos (by omega)
  generalize (2 : Int) ^ (36 - 2 * (3 * d + n + 1)) = p at *
  omega
theorem g_lt {n D : Nat} (hn : n < 3) (hD1 : 1 ≤ D) (hD : D ≤ 6) {c c' : Nat} (h : c < c') (hc : c' < 4 ^ D) : rf_g n D c < rf_g n D c' := by
  obtain ⟨d, rfl⟩ : ∃ d, D = d + 1 := ⟨D - 1, by omega⟩
  have hp : (0 : Int) < 2 ^ (36 - 2 * (3 * d + n + 1)) := Int.pow_pos (by omega)
  rcases rf_g_lt hn d (by omega) c c' h with h1 | h1
  · generalize (2 : Int) ^ (36 - 2 * (3 * d + n + 1)) = p at *
    omega
  · exact absurd (Nat.div_eq_of_lt hc) h1
theorem agree_cnt {s0 w0 lg D : Nat} {fb : Int32} {fx : Nat → Int32} (hs0 : s0 < 4) (hw : (s0 = 0 ∧ w0 = 0) ∨ (s0 ≠ 0 ∧ 1 ≤ w0)) : cnt (fun c => (dp_T (cl_d D lg fb fx) (so s0 w0) D c).isSome) (4 ^ D) = cnt (rf_ok s0 w0 lg fb fx D) (4 ^ D) :=
  cnt_congr (fun _ hc => lemA_some hs0 hw (Nat.le_refl D) hc)
/-- what the walk's least key says in the reference's words -/
theorem walk_says {s0 w0 lg D n : Nat} {fb : Int32} {fx sc pc q : Nat → Int32} {z : Int} (hs0 : s0 < 4) (hw : (s0 = 0 ∧ w0 = 0) ∨ (s0 ≠ 0 ∧ 1 ≤ w0)) (hm : IsMin (fun c => (dp_T (cl_d D lg fb fx) (so s0 w0) D c).isSome) (dp_K (cl_d D lg fb fx) (cl_k n sc pc q) (so s0 w0) D) z) :
    (z = NO ∧ ∀ c, c < 4 ^ D → rf_ok s0 w0 lg fb fx D c = false) ∨ ∃ c, c < 4 ^ D ∧ rf_ok s0 w0 lg fb fx D c = true ∧ z = (rf_p s0 sc pc D c - rf_q q D c) * 2 ^ 36 + rf_g n D c ∧ ∀ c', c' < 4 ^ D → rf_ok s0 w0 lg fb fx D c' = true → z ≤ (rf_p s0 sc pc D c' - rf_q q D c') * 2 ^ 36 + rf_g n D c' := by
  rcases hm with ⟨h1, h2⟩ | ⟨c, h1, h2, h3⟩
  · exact .inl ⟨h1, fun c hc => by rw [← lemA_some (D := D) hs0 hw (Nat.le_refl D) hc]; exact h2 c⟩
  · obtain ⟨t, ht⟩ := Option.isSome_iff_exists.1 h1
    have hc := tt_lt ht
    have hok : rf_ok s0 w0 lg fb fx D c = true := by rw [← lemA_some (D := D) hs0 hw (Nat.le_refl D) hc]; exact h1
    refine .inr ⟨c, hc, hok, ?_, fun c' hc' hok' => ?_⟩
    · rw [h2, lemK hs0 hw D (Nat.le_refl D) c hc hok]
    · rw [← lemK (D := D) (n := n) hs0 hw D (Nat.le_refl D) c' hc' hok', h2]
      exact h3 c' (by show (dp_T _ _ D c').isSome = true; rw [lemA_some hs0 hw (Nat.le_refl D) hc']; exact hok')
theorem agree_pick {s0 w0 lg D n : Nat} {fb : Int32} {fx sc pc q : Nat → Int32} {z : Int} {pick worth : Int32} (hn : n < 3) (hD1 : 1 ≤ D) (hD : D ≤ 6) (hs0 : s0 < 4) (hw : (s0 = 0 ∧ w0 = 0) ∨ (s0 ≠ 0 ∧ 1 ≤ w0)) (hm : IsMin (fun c => (dp_T (cl_d D lg fb fx) (so s0 w0) D c).isSome) (dp_K (cl_d D lg fb fx) (cl_k n sc pc q) (so s0 w0) D) z) (hp : Pick (rf_ok s0 w0 lg fb fx D) (fun c => rf_p s0 sc pc D c - rf_q q D c) (4 ^ D) pick worth) :
    (z = NO ∧ pick = -1) ∨ ∃ c, c < 4 ^ D ∧ rf_ok s0 w0 lg fb fx D c = true ∧ pick = mI c ∧ z = (rf_p s0 sc pc D c - rf_q q D c) * 2 ^ 36 + rf_g n D c := by
  rcases walk_says hs0 hw hm with ⟨h1, h2⟩ | ⟨c, h1, h2, h3, h4⟩
  · rcases hp with ⟨p1, p2⟩ | ⟨c, p1, p2, p3, p4, p5⟩
    · exact .inl ⟨h1, p1⟩
    · rw [h2 c p1] at p2; cases p2
  · rcases hp with ⟨p1, p2⟩ | ⟨e, p1, p2, p3, p4, p5⟩
    · rw [p2 c h1] at h2; cases h2
    · refine .inr ⟨e, p1, p2, p3, ?_⟩
      have a1 := h4 e p1 p2
      have a2 := p5 c h1 h2
      have b1 := g_bd hn hD1 hD c
      have b2 := g_bd hn hD1 hD e
      dsimp only at a2
      by_cases hce : c = e
      · subst hce; exact h3
      · exfalso
        by_cases hlt : c < e
        · have := a2.2 hlt; omega
        · have := g_lt hn hD1 hD (show e < c by omega) h1
          have := a2.1
          omega
/-- the reference's least penalty of a line -/
theorem p_lineR {fu n D lg s0 w0 : Nat} {l0 p0 : Int32} {fbA lgA sbA wbA co pa fi : Nat → Int32} (hfu : 4096 < fu) (hn : n < 3) (hD : D ≤ 6) (hs0 : s0 < 4) (hw0 : w0 ≤ 4) (hlg : lg ≤ 4) (hsb : sbA n = mI s0) (hwb : wbA n = mI w0) (hla : lgA n = mI lg) (hsc : Lim 24 99 (fun k => co (24 * n + k))) (hpc : Lim 16 99 (fun k => pa (16 * n + k))) :
    ∃ r l1 p1, f_Wm_line fu (mI n) (mI D) l0 p0 fbA lgA sbA wbA co pa fi = some (r, 0, l1, p1) ∧ ((r = -1 ∧ ∀ c, c < 4 ^ D → rf_ok s0 w0 lg (fbA n) (fun d => fi (6 * n + d)) D c = false) ∨ ∃ c, c < 4 ^ D ∧ rf_ok s0 w0 lg (fbA n) (fun d => fi (6 * n + d)) D c = true ∧ r = iI (rf_p s0 (fun k => co (24 * n + k)) (fun k => pa (16 * n + k)) D c) ∧ ∀ c', c' < 4 ^ D → rf_ok s0 w0 lg (fbA n) (fun d => fi (6 * n + d)) D c' = true → rf_p s0 (fun k => co (24 * n + k)) (fun k => pa (16 * n + k)) D c ≤ rf_p s0 (fun k => co (24 * n + k)) (fun k => pa (16 * n + k)) D c') := by
  have h4 := pow46 hD
  unfold f_Wm_line
  rw [p_noNurse n hn, sb, if_pos rfl]
  unfold f_Wm_line_b13
  rw [if_pos rfl]
  obtain ⟨r, h1, h2⟩ := iter_for (N := 4 ^ D) (b := f_Wm_line_l29 fu (mI n) (mI D) fbA lgA sbA wbA co pa fi) (fun k (a : Int32 × Int32 × Int32 × Int32) => a.2.1 = mI k ∧ ((a.1 = -1 ∧ ∀ c, c < k → rf_ok s0 w0 lg (fbA n) (fun d => fi (6 * n + d)) D c = false) ∨ ∃ c, c < k ∧ rf_ok s0 w0 lg (fbA n) (fun d => fi (6 * n + d)) D c = true ∧ a.1 = iI (rf_p s0 (fun k => co (24 * n + k)) (fun k => pa (16 * n + k)) D c) ∧ ∀ c', c' < k → rf_ok s0 w0 lg (fbA n) (fun d => fi (6 * n + d)) D c' = true → rf_p s0 (fun k => co (24 * n + k)) (fun k => pa (16 * n + k)) D c ≤ rf_p s0 (fun k => co (24 * n + k)) (fun k => pa (16 * n + k)) D c')) (P := fun a => ((a.1 = -1 ∧ ∀ c, c < 4 ^ D → rf_ok s0 w0 lg (fbA n) (fun d => fi (6 * n + d)) D c = false) ∨ ∃ c, c < 4 ^ D ∧ rf_ok s0 w0 lg (fbA n) (fun d => fi (6 * n + d)) D c = true ∧ a.1 = iI (rf_p s0 (fun k => co (24 * n + k)) (fun k => pa (16 * n + k)) D c) ∧ ∀ c', c' < 4 ^ D → rf_ok s0 w0 lg (fbA n) (fun d => fi (6 * n + d)) D c' = true → rf_p s0 (fun k => co (24 * n + k)) (fun k => pa (16 * n + k)) D c ≤ rf_p s0 (fun k => co (24 * n + k)) (fun k => pa (16 * n + k)) D c'))
    (by
      rintro k ⟨x, i, y, z⟩ hk ⟨e1, e2⟩
      dsimp only at e1 e2
      subst e1
      unfold f_Wm_line_l29
      dsimp only
      rw [p_allLines D (by omega), sb, if_neg (by rw [mI_le (by omega) (by omega)]; omega), p_walkR (by omega) hn hD hk hs0 hw0 hlg hsb hwb hla, sb]
      dsimp only
      unfold f_Wm_line_b69 f_Wm_line_b62 f_Wm_line_b70
      have bk := fun c => rf_p_bd hs0 hsc hpc D hD c
      generalize rf_ok s0 w0 lg (fbA n) (fun d => fi (6 * n + d)) D = P at *
      generalize rf_p s0 (fun k => co (24 * n + k)) (fun k => pa (16 * n + k)) D = Kp at *
      cases hb : P k with
      | false =>
        rw [if_pos (show bI false = 0 from rfl)]
        refine ⟨_, rfl, mI_1 k, ?_⟩
        rcases e2 with ⟨a1, a2⟩ | ⟨c, a1, a2, a3, a5⟩
        · refine .inl ⟨a1, fun c hc => ?_⟩
          by_cases e : c = k
          · rw [e]; exact hb
          · exact a2 c (by omega)
        · refine .inr ⟨c, by omega, a2, a3, fun c' hc' hp => ?_⟩
          by_cases e : c' = k
          · rw [e, hb] at hp; cases hp
          · exact a5 c' (by omega) hp
      | true =>
        rw [if_neg (show ¬ bI true = 0 by decide)]
        rcases e2 with ⟨a1, a2⟩ | ⟨c, a1, a2, a3, a5⟩
        · rw [if_pos (by rw [a1]; decide)]
          refine ⟨_, rfl, mI_1 k, .inr ⟨k, by omega, hb, rfl, fun c' hc' hp => ?_⟩⟩
          by_cases e : c' = k
          · subst e; exact Int.le_refl _
          · rw [a2 c' (by omega)] at hp; cases hp
        · have q1 := bk c
          have q3 := bk k
          have hn0 : ¬ x < 0 := by
            rw [a3]
            intro h
            have := (iI_lt (b := 0) (by omega) (by omega) (by omega) (by omega)).1 h
            omega
          rw [if_neg hn0]
          by_cases hle : Kp c ≤ Kp k
          · rw [if_pos (by rw [a3]; exact (iI_le (by omega) (by omega) (by omega) (by omega)).2 hle)]
            refine ⟨_, rfl, mI_1 k, .inr ⟨c, by omega, a2, a3, fun c' hc' hp => ?_⟩⟩
            by_cases e : c' = k
            · subst e; exact hle
            · exact a5 c' (by omega) hp
          · rw [if_neg (by rw [a3]; exact fun h => hle ((iI_le (by omega) (by omega) (by omega) (by omega)).1 h))]
            refine ⟨_, rfl, mI_1 k, .inr ⟨k, by omega, hb, rfl, fun c' hc' hp => ?_⟩⟩
            by_cases e : c' = k
            · subst e; exact Int.le_refl _
            · have := a5 c' (by omega) hp
              omega)
    (by
      rintro ⟨x, i, y, z⟩ ⟨e1, e2⟩
      dsimp only at e1
      subst e1
      refine ⟨(x, mI (4 ^ D), y, z), ?_, e2⟩
      unfold f_Wm_line_l29
      dsimp only
      rw [p_allLines D (by omega), sb, if_pos (by rw [mI_le (by omega) (by omega)]; omega)])
    fu 0 (-1, mI 0, l0, p0) (Nat.zero_le _) (by omega) ⟨rfl, .inl ⟨rfl, fun c hc => absurd hc (by omega)⟩⟩
  refine ⟨r.1, r.2.2.1, r.2.2.2, ?_, h2⟩
  show (iter _ fu (-1, mI 0, l0, p0)).bind _ = _
  rw [h1, sb]
theorem rf_q_zero {q : Nat → Int32} (hq : ∀ k, k < 24 → q k = 0) : ∀ d, d ≤ 6 → ∀ c, rf_q q d c = 0 := by
  intro d
  induction d with
  | zero => intro _ c; rfl
  | succ d ih =>
    intro hd c
    unfold rf_q
    rw [ih (by omega), hq (4 * d + c % 4) (by omega)]
    rfl
/-- line: the least penalty, or -1 -/
theorem agree_line {s0 w0 lg D n : Nat} {fb : Int32} {fx sc pc q : Nat → Int32} {z : Int} {r : Int32} (hn : n < 3) (hD1 : 1 ≤ D) (hD : D ≤ 6) (hs0 : s0 < 4) (hw : (s0 = 0 ∧ w0 = 0) ∨ (s0 ≠ 0 ∧ 1 ≤ w0)) (hq : ∀ k, k < 24 → q k = 0) (hm : IsMin (fun c => (dp_T (cl_d D lg fb fx) (so s0 w0) D c).isSome) (dp_K (cl_d D lg fb fx) (cl_k n sc pc q) (so s0 w0) D) z)
    (hr : (r = -1 ∧ ∀ c, c < 4 ^ D → rf_ok s0 w0 lg fb fx D c = false) ∨ ∃ c, c < 4 ^ D ∧ rf_ok s0 w0 lg fb fx D c = true ∧ r = iI (rf_p s0 sc pc D c) ∧ ∀ c', c' < 4 ^ D → rf_ok s0 w0 lg fb fx D c' = true → rf_p s0 sc pc D c ≤ rf_p s0 sc pc D c') :
    (z = NO ∧ r = -1) ∨ (∃ c, c < 4 ^ D ∧ rf_ok s0 w0 lg fb fx D c = true ∧ z = rf_p s0 sc pc D c * 2 ^ 36 + rf_g n D c ∧ r = iI (z / 2 ^ 36)) := by
  rcases walk_says hs0 hw hm with ⟨h1, h2⟩ | ⟨c, h1, h2, h3, h4⟩
  · rcases hr with ⟨p1, p2⟩ | ⟨c, p1, p2, p3, p5⟩
    · exact .inl ⟨h1, p1⟩
    · rw [h2 c p1] at p2; cases p2
  · rcases hr with ⟨p1, p2⟩ | ⟨e, p1, p2, p3, p5⟩
    · rw [p2 c h1] at h2; cases h2
    · have a1 := h4 e p1 p2
      have a2 := p5 c h1 h2
      have b1 := g_bd hn hD1 hD c
      have b2 := g_bd hn hD1 hD e
      rw [rf_q_zero hq D hD] at h3 a1
      refine .inr ⟨c, h1, h2, by omega, ?_⟩
      rw [p3]
      congr 1
      omega
