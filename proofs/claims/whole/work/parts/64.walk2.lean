/-! walkLines, day by day -/
def anyB (P : Nat → Nat → Bool) : Nat → Nat → Bool
  | 0, _ => false
  | m + 1, c => anyB P m c || P m c
theorem anyB_iff {P : Nat → Nat → Bool} {c : Nat} : ∀ {m : Nat}, anyB P m c = true ↔ ∃ t, t < m ∧ P t c = true := by
  intro m
  induction m with
  | zero => constructor
            · intro h; cases h
            · rintro ⟨t, h, _⟩; omega
  | succ m ih =>
    unfold anyB
    rw [Bool.or_eq_true, ih]
    constructor
    · rintro (⟨t, h, h'⟩ | h)
      · exact ⟨t, by omega, h'⟩
      · exact ⟨m, by omega, h⟩
    · rintro ⟨t, h, h'⟩
      by_cases e : t = m
      · subst e; exact .inr h'
      · exact .inl ⟨t, by omega, h'⟩
theorem NO_jJ : (4611686018427387904 : Int64) = jJ NO := by decide
theorem p_leastOf {fu m : Nat} {f : Nat → Int64} {P : Nat → Nat → Bool} {K : Nat → Int} {L : Int} (hm : m < 2 ^ 31) (hf : m < fu) (hK : ∀ c, -L ≤ K c ∧ K c ≤ L) (hL : L < NO) (h : ∀ t, t < m → ∃ z, f t = jJ z ∧ IsMin (P t) K z) : ∃ z, f_Wr_leastOf fu m f = some (jJ z) ∧ IsMin (anyB P m) K z := by
  have hN : NO = 2 ^ 62 := by decide
  unfold f_Wr_leastOf
  obtain ⟨r, h1, z, h2, h3⟩ := iter_for (N := m) (b := f_Wr_leastOf_l6 m f) (fun t (a : Int64 × Int32) => a.2 = mI t ∧ ∃ z, a.1 = jJ z ∧ IsMin (anyB P t) K z) (P := fun r => ∃ z, r.1 = jJ z ∧ IsMin (anyB P m) K z)
    (by
      rintro t ⟨x, i⟩ ht ⟨rfl, z, e1, e2⟩
      dsimp only at e1
      subst e1
      obtain ⟨y, e3, e4⟩ := h t ht
      have b1 := isMin_rng hK hL e2
      have b2 := isMin_rng hK hL e4
      unfold f_Wr_leastOf_l6
      dsimp only
      rw [if_neg (show ¬ mI m ≤ mI t by rw [mI_le (by omega) (by omega)]; omega), gl_n ht hm, sb, e3, jJ_min (by omega) (by omega) (by omega) (by omega), mI_1]
      refine ⟨_, rfl, rfl, _, rfl, ?_⟩
      exact isMin_or (P := anyB P t) (Q := P t) (fun c _ => by have := hK c; omega) (fun c _ => by have := hK c; omega) e2 e4)
    (by
      rintro ⟨x, i⟩ ⟨rfl, hz⟩
      refine ⟨(x, mI m), ?_, hz⟩
      unfold f_Wr_leastOf_l6
      dsimp only
      rw [if_pos (show mI m ≤ mI m by rw [mI_le (by omega) (by omega)]; omega)])
    fu 0 (jJ NO, mI 0) (by omega) (by omega) ⟨rfl, NO, rfl, isMin_none (fun _ => rfl)⟩
  refine ⟨z, ?_, h3⟩
  rw [NO_jJ]
  show (iter (f_Wr_leastOf_l6 m f) fu (jJ NO, mI 0)).bind _ = _
  rw [h1, sb, h2]
theorem dp_any {δ : Nat → Nat → Nat → Option Nat} {t0 d N : Nat} (h : ∀ c t, dp_T δ t0 d c = some t → t < N) (c : Nat) : anyB (dp_B δ t0 d) N c = (dp_T δ t0 d c).isSome := by
  rw [Bool.eq_iff_iff, anyB_iff, Option.isSome_iff_exists]
  constructor
  · rintro ⟨t, _, h2⟩; exact ⟨t, of_decide_eq_true h2⟩
  · rintro ⟨t, h2⟩; exact ⟨t, h c t h2, decide_eq_true h2⟩
theorem cnt_any {δ : Nat → Nat → Nat → Option Nat} {t0 d m n : Nat} : cnt (anyB (dp_B δ t0 d) (m + 1)) n = cnt (anyB (dp_B δ t0 d) m) n + cnt (dp_B δ t0 d m) n := by
  show cnt (fun c => anyB (dp_B δ t0 d) m c || dp_B δ t0 d m c) n = _
  refine cnt_or (fun c hc => ?_) n
  obtain ⟨t, h1, h2⟩ := anyB_iff.1 hc
  have h2 := of_decide_eq_true h2
  unfold dp_B
  rw [h2]
  simp
  omega
theorem p_countLines {fu d t0 : Nat} {δ : Nat → Nat → Nat → Option Nat} {w : Nat → Int32} (hf : 13 < fu) (h : ∀ t, t < 13 → w t = mI (cnt (dp_B δ t0 d t) (4 ^ d))) (hs : ∀ c t, dp_T δ t0 d c = some t → t < 13) : f_Lw_countLines fu w = some (mI (cnt (fun c => (dp_T δ t0 d c).isSome) (4 ^ d))) := by
  unfold f_Lw_countLines
  obtain ⟨r, h1, h2⟩ := iter_for (N := 13) (b := f_Lw_countLines_l4 w) (fun t (a : Int32 × Int32) => a.2 = mI t ∧ a.1 = mI (cnt (anyB (dp_B δ t0 d) t) (4 ^ d))) (P := fun r => r.1 = mI (cnt (anyB (dp_B δ t0 d) 13) (4 ^ d)))
    (by
      rintro t ⟨x, i⟩ ht ⟨rfl, e⟩
      dsimp only at e
      subst e
      unfold f_Lw_countLines_l4
      dsimp only
      rw [if_neg (show ¬ (13 : Int32) ≤ mI t from fun h => absurd ((mI_le (a := 13) (by omega) (by omega)).1 h) (by omega)), gi_n ht (by omega), sb, h t ht, mI_add, mI_1, ← cnt_any]
      exact ⟨_, rfl, rfl, rfl⟩)
    (by
      rintro ⟨x, i⟩ ⟨rfl, e⟩
      refine ⟨(x, mI 13), ?_, e⟩
      unfold f_Lw_countLines_l4
      dsimp only
      rw [if_pos (show (13 : Int32) ≤ mI 13 from (mI_le (a := 13) (by omega) (by omega)).2 (by omega))])
    fu 0 (mI 0, mI 0) (by omega) (by omega) ⟨rfl, by rw [cnt_zero (p := anyB (dp_B δ t0 d) 0) (fun _ _ => rfl)]⟩
  show (iter (f_Lw_countLines_l4 w) fu (mI 0, mI 0)).bind _ = _
  rw [h1, sb, h2, cnt_congr (fun c _ => dp_any hs c)]
theorem p_row {fu D lg n d t0 : Nat} {fb : Int32} {fx sc pc q : Nat → Int32} {k nk : Nat → Int64} {w nw : Nat → Int32} (hfu : 13 < fu) (hD : D ≤ 6) (hd : d < D) (hn : n < 3) (ht0 : t0 < 13) (hl : lg ≤ 4) (hsc : Lim 24 99 sc) (hpc : Lim 16 99 pc) (hq : Lim 24 999 q)
    (hS : SInv (cl_d D lg fb fx) (cl_k n sc pc q) t0 d k w) (hi : WInv (cl_d D lg fb fx) (cl_k n sc pc q) t0 d 0 0 nk nw) :
    ∃ r, iter (f_Lw_walkLines_l69 fu (mI d) k w (mI n) fb (mI lg) (mI D) sc pc fx q) fu (mI 0, nk, nw) = some r ∧ SInv (cl_d D lg fb fx) (cl_k n sc pc q) t0 (d + 1) r.2.1 r.2.2 := by
  have hN : NO = 2 ^ 62 := by decide
  have hb := cl_k_bd (n := n) hsc hpc hq
  have hK : ∀ d', d' ≤ D → ∀ c, -(2 ^ 50) ≤ dp_K (cl_d D lg fb fx) (cl_k n sc pc q) t0 d' c ∧ dp_K (cl_d D lg fb fx) (cl_k n sc pc q) t0 d' c ≤ 2 ^ 50 := by
    intro d' hd' c
    have := kk_bd (δ := cl_d D lg fb fx) (t0 := t0) (D := D) (fun d t s h h' => hb d t s (by omega) h') (by omega) d' c hd'
    omega
  refine iter_for (N := 13) (fun t (a : Int32 × (Nat → Int64) × (Nat → Int32)) => a.1 = mI t ∧ WInv (cl_d D lg fb fx) (cl_k n sc pc q) t0 d t 0 a.2.1 a.2.2) (P := fun (r : Int32 × (Nat → Int64) × (Nat → Int32)) => SInv (cl_d D lg fb fx) (cl_k n sc pc q) t0 (d + 1) r.2.1 r.2.2) ?_ ?_ fu 0 (mI 0, nk, nw) (by omega) (by omega) ⟨rfl, hi⟩
  · rintro t ⟨i, nk, nw⟩ ht ⟨rfl, hi⟩
    obtain ⟨⟨z, e1, e2⟩, e3⟩ := hS t ht
    have b := isMin_rng (hK d (by omega)) (by omega) e2
    unfold f_Lw_walkLines_l69
    dsimp only
    rw [if_neg (show ¬ (13 : Int32) ≤ mI t from fun h => absurd ((mI_le (a := 13) (by omega) (by omega)).1 h) (by omega)), gl_n ht (by omega), sb, NO_jJ]
    by_cases hz : z = NO
    · rw [if_pos (by rw [e1, hz])]
      refine ⟨(mI (t + 1), nk, nw), by unfold f_Lw_walkLines_b99; rw [mI_1], rfl, fun t' ht' => ?_⟩
      have h0 := (isMin_no (fun c _ => by have := hK d (by omega) c; omega) e2).1 hz
      obtain ⟨⟨z', a1, a2⟩, a3⟩ := hi t' ht'
      exact ⟨⟨z', a1, isMin_congr (fun c => qq_none h0 c) (fun _ _ => rfl) a2⟩, by rw [← cnt_congr (fun c _ => qq_none h0 c)]; exact a3⟩
    · rw [if_neg (by rw [e1, jJ_inj (by omega) (by omega) (by omega) (by omega)]; exact hz)]
      obtain ⟨r, h1, h2⟩ := p_leaveState (fu := fu) (by omega) hD hd hn ht hl hsc hpc hq e1 e2 hz e3 hi
      dsimp only at h1
      rw [h1, sb]
      exact ⟨(mI (t + 1), r.1, r.2), by unfold f_Lw_walkLines_b99; rw [mI_1], rfl, h2⟩
  · rintro ⟨i, nk, nw⟩ ⟨rfl, hi⟩
    refine ⟨(mI 13, nk, nw), ?_, fun t' ht' => ?_⟩
    · unfold f_Lw_walkLines_l69
      dsimp only
      rw [if_pos (show (13 : Int32) ≤ mI 13 from (mI_le (a := 13) (by omega) (by omega)).2 (by omega))]
    · obtain ⟨⟨z', a1, a2⟩, a3⟩ := hi t' ht'
      have hst : ∀ c t, dp_T (cl_d D lg fb fx) t0 d c = some t → t < 13 := fun c t h => tt_st ht0 (cl_lt hl) h
      exact ⟨⟨z', a1, isMin_congr (fun c => qq_end hst c) (fun _ _ => rfl) a2⟩, by rw [← cnt_congr (fun c _ => qq_end hst c)]; exact a3⟩
/-- the walk: the least key of all legal lines; for each state the number of lines -/
theorem p_walkLines {fu D lg n t0 : Nat} {fb : Int32} {fx sc pc q : Nat → Int32} {k nk : Nat → Int64} {w nw : Nat → Int32} (hfu : 13 < fu) (hD : D ≤ 6) (hn : n < 3) (ht0 : t0 < 13) (hl : lg ≤ 4) (hsc : Lim 24 99 sc) (hpc : Lim 16 99 pc) (hq : Lim 24 999 q) :
    ∃ z k' nk' w' nw', f_Lw_walkLines fu k nk w nw (mI n) fb (mI lg) (mI t0) (mI D) sc pc fx q = some (jJ z, k', nk', w', nw') ∧ IsMin (fun c => (dp_T (cl_d D lg fb fx) t0 D c).isSome) (dp_K (cl_d D lg fb fx) (cl_k n sc pc q) t0 D) z ∧ ∀ t, t < 13 → w' t = mI (cnt (dp_B (cl_d D lg fb fx) t0 D t) (4 ^ D)) := by
  have hN : NO = 2 ^ 62 := by decide
  have hb := cl_k_bd (n := n) hsc hpc hq
  have hK : ∀ c, -(2 ^ 50) ≤ dp_K (cl_d D lg fb fx) (cl_k n sc pc q) t0 D c ∧ dp_K (cl_d D lg fb fx) (cl_k n sc pc q) t0 D c ≤ 2 ^ 50 := by
    intro c
    have := kk_bd (δ := cl_d D lg fb fx) (t0 := t0) (D := D) (fun d t s h h' => hb d t s (by omega) h') (by omega) D c (Nat.le_refl D)
    omega
  unfold f_Lw_walkLines
  obtain ⟨g1, a1, a2, _⟩ := p_fill_J (fu := fu) (n := 13) (x := (4611686018427387904 : Int64)) (f := k) (by omega) (by omega)
  obtain ⟨g2, a3, a4, _⟩ := p_fill_I (fu := fu) (n := 13) (x := (0 : Int32)) (f := w) (by omega) (by omega)
  rw [a1, sb, a3, sb, sl_n ht0 (by omega), sb, si_n ht0 (by omega), sb]
  have hS0 : SInv (cl_d D lg fb fx) (cl_k n sc pc q) t0 0 (vp_updL g1 t0 0) (upd g2 t0 1) := by
    intro t ht
    rw [updL_at, upd_at]
    by_cases e : t = t0
    · subst e
      rw [if_pos rfl, if_pos rfl]
      refine ⟨⟨0, rfl, .inr ⟨0, by simp [dp_B, dp_T], rfl, fun _ _ => Int.le_refl _⟩⟩, ?_⟩
      show mI 1 = mI (0 + if dp_B _ _ 0 t 0 = true then 1 else 0)
      simp [dp_B, dp_T]
    · rw [if_neg e, if_neg e, a2 t ht, a4 t ht]
      have h0 : ∀ c, dp_B (cl_d D lg fb fx) t0 0 t c = false := by
        intro c
        unfold dp_B dp_T
        split
        · simp; omega
        · simp
      exact ⟨⟨NO, NO_jJ, isMin_none h0⟩, by rw [cnt_zero (fun c _ => h0 c)]; rfl⟩
  obtain ⟨r, h1, h2⟩ := iter_for (N := D) (b := f_Lw_walkLines_l40 fu (mI n) fb (mI lg) (mI D) sc pc fx q) (fun d (a : Int32 × (Nat → Int64) × (Nat → Int64) × (Nat → Int32) × (Nat → Int32)) => a.1 = mI d ∧ SInv (cl_d D lg fb fx) (cl_k n sc pc q) t0 d a.2.1 a.2.2.2.1) (P := fun r => SInv (cl_d D lg fb fx) (cl_k n sc pc q) t0 D r.2.1 r.2.2.2.1)
    (by
      rintro d ⟨i, k, nk, w, nw⟩ hd ⟨rfl, hS⟩
      dsimp only at hS
      unfold f_Lw_walkLines_l40
      dsimp only
      obtain ⟨g3, c1, c2, _⟩ := p_fill_J (fu := fu) (n := 13) (x := (4611686018427387904 : Int64)) (f := nk) (by omega) (by omega)
      obtain ⟨g4, c3, c4, _⟩ := p_fill_I (fu := fu) (n := 13) (x := (0 : Int32)) (f := nw) (by omega) (by omega)
      have hW : WInv (cl_d D lg fb fx) (cl_k n sc pc q) t0 d 0 0 g3 g4 := by
        intro t' ht'
        rw [c2 t' ht', c4 t' ht']
        exact ⟨⟨NO, NO_jJ, isMin_none (fun c => qq_zero c)⟩, by rw [cnt_zero (fun c _ => qq_zero c)]; rfl⟩
      obtain ⟨r, d1, d2⟩ := p_row (fu := fu) hfu hD hd hn ht0 hl hsc hpc hq hS hW
      rw [if_neg (show ¬ mI D ≤ mI d by rw [mI_le (by omega) (by omega)]; omega), c1, sb, c3, sb]
      show ∃ a', ((iter _ fu (mI 0, g3, g4)).bind _) = _ ∧ _
      rw [d1, sb]
      unfold f_Lw_swapRows
      rw [sb, mI_1]
      exact ⟨_, rfl, rfl, d2⟩)
    (by
      rintro ⟨i, k, nk, w, nw⟩ ⟨rfl, hS⟩
      refine ⟨(mI D, k, nk, w, nw), ?_, hS⟩
      unfold f_Lw_walkLines_l40
      dsimp only
      rw [if_pos (show mI D ≤ mI D by rw [mI_le (by omega) (by omega)]; omega)])
    fu 0 (mI 0, vp_updL g1 t0 0, nk, upd g2 t0 1, nw) (by omega) (by omega) ⟨rfl, hS0⟩
  show ∃ z k' nk' w' nw', ((iter _ fu (mI 0, _, _, _, _)).bind _) = _ ∧ _
  rw [h1, sb]
  obtain ⟨z, h3, h4⟩ := p_leastOf (fu := fu) (m := 13) (f := r.2.1) (by omega) hfu hK (by omega) (fun t ht => (h2 t ht).1)
  rw [h3, sb]
  have hst : ∀ c t, dp_T (cl_d D lg fb fx) t0 D c = some t → t < 13 := fun c t h => tt_st ht0 (cl_lt hl) h
  exact ⟨z, _, _, _, _, rfl, isMin_congr (fun c => dp_any hst c) (fun _ _ => rfl) h4, fun t ht => (h2 t ht).2⟩
