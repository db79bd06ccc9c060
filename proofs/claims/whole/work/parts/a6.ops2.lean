/-! least, best, adopt, repair, planned: class and reference answer alike -/
theorem br_val {D : Nat} {z V : Int} {f : Nat → Int32} (hD : D ≤ 6) (h : BR D True z V f) : (z = NO ∧ V = FAR) ∨ (∃ c : Nat, c < 64 ^ D ∧ z = V * 2 ^ 36 + (c : Int) * 4 ^ (18 - 3 * D) ∧ 0 ≤ V ∧ V ≤ 3564 ∧ 0 ≤ z ∧ z < 2 ^ 60 ∧ z / 2 ^ 36 = V ∧ Fgd D c f) := by
  rcases h with h | ⟨c, P, C, a1, a2, a3, a4, a5, a6, a7, a8, a9⟩
  · exact .inl h
  · have hC := a8 trivial
    have hb := code_bd hD a1
    subst hC
    refine .inr ⟨c, a1, ?_, by omega, by omega, ?_, ?_, ?_, a9⟩
    · rw [a2, a3]; simp
    · omega
    · omega
    · omega
theorem ag_least {fu D : Nat} {lgN sB wB : Nat → Nat} {fbN : Nat → Int32} {fxN scN pcN : Nat → Nat → Int32} {nd fbA lgA bs bw ndM co pa fi : Nat → Int32} {plan sa rest af we cv fd best : Nat → Int32} {ss k nk : Nat → Int64} {be : Int64} {bk sol least rep : Int32} (hfu : 4096 < fu) (W : Wd D lgN sB wB fbN fxN scN pcN nd fbA lgA bs bw ndM co pa fi) (hB : BK2 D be bk sol least best) :
    ∃ v z sa' ss' k' nk' V rep' best' rest' af' we' cv' fd', f_Wr_least fu be bk (mI D) (mI 0) (fbN 0) (mI (lgN 0)) (mI (so (sB 0) (wB 0))) (mI D) (scN 0) (pcN 0) (fxN 0) (mI 1) (fbN 1) (mI (lgN 1)) (mI (so (sB 1) (wB 1))) (mI D) (scN 1) (pcN 1) (fxN 1) (mI 2) (fbN 2) (mI (lgN 2)) (mI (so (sB 2) (wB 2))) (mI D) (scN 2) (pcN 2) (fxN 2) nd sa ss k nk = some (v, jJ z, 1, sa', ss', k', nk') ∧ f_Wm_least fu (mI D) sol least rep fbA lgA bs bw ndM co pa fi best plan rest af we cv fd = some (v, 0, 1, iI V, rep', best', rest', af', we', cv', fd') ∧ BR D True z V best' := by
  have hD := W.hD
  have hN : NO = 2 ^ 62 := by decide
  have hF : FAR = 1000000000 := rfl
  obtain ⟨z, sa', ss', k', nk', V, rep', best', rest', af', we', cv', fd', h1, h2, h3⟩ := ag_best (sa := sa) (ss := ss) (k := k) (nk := nk) (plan := plan) (rest := rest) (af := af) (we := we) (cv := cv) (fd := fd) (rep := rep) hfu W hB
  unfold f_Wr_least f_Wm_least
  rw [h1, sb, h2, sb]
  dsimp only
  rw [NO_jJ, FAR_iI]
  rcases br_val hD h3 with ⟨b1, b2⟩ | ⟨c, b1, b2, b3, b4, b5, b6, b7, _⟩
  · rw [if_pos (by rw [b1]), if_pos (by rw [b2])]
    exact ⟨_, z, sa', ss', k', nk', V, rep', best', rest', af', we', cv', fd', rfl, rfl, h3⟩
  · rw [if_neg (fun q => absurd ((jJ_inj (by omega) (by omega) (by omega) (by omega)).1 q) (by omega)), if_neg (fun q => absurd ((iI_inj (by omega) (by omega) (by omega) (by omega)).1 q) (by omega)), p_weightOf (by omega) (by omega), sb, b7]
    exact ⟨_, z, sa', ss', k', nk', V, rep', best', rest', af', we', cv', fd', rfl, rfl, h3⟩
theorem p_reqD {d D : Nat} (hD : D ≤ 6) (hd : d < D) : f_Wr_requireDay (mI d) (mI D) = some (.inl ()) := by
  unfold f_Wr_requireDay
  rw [if_neg (show ¬ mI d < 0 from fun q => absurd ((mI_lt (b := 0) (by omega) (by omega)).1 q) (by omega)), if_pos ((mI_lt (by omega) (by omega)).2 hd)]
theorem p_noD {d D : Nat} (hD : D ≤ 6) (hd : d < D) : f_Wm_noDay (mI d) (mI D) = some 0 := by
  unfold f_Wm_noDay
  rw [if_neg (show ¬ mI d < 0 from fun q => absurd ((mI_lt (b := 0) (by omega) (by omega)).1 q) (by omega)), if_pos ((mI_lt (by omega) (by omega)).2 hd)]
theorem p_digit {D c d n : Nat} {W : Int} {f : Nat → Int32} (hD : D ≤ 6) (hd : d < D) (hn : n < 3) (h1 : -2 ^ 63 ≤ W * 2 ^ 36 + (c : Int) * 4 ^ (18 - 3 * D)) (h2 : W * 2 ^ 36 + (c : Int) * 4 ^ (18 - 3 * D) < 2 ^ 63) (hf : Fgd D c f) : (f_Wr_placeBit (mI n) (mI d)).bind (fun v => f_Wr_shiftAt (jJ (W * 2 ^ 36 + (c : Int) * 4 ^ (18 - 3 * D))) v) = some (f (6 * n + d)) := by
  rw [p_placeBit hn (by omega), sb, p_shiftAt (by omega) h1 h2, hf n d hn hd]
  have := dg_at (W := W) (c := c) hd hD hn
  unfold dg at this
  rw [this]
theorem ag_best1 {fu D n d : Nat} {lgN sB wB : Nat → Nat} {fbN : Nat → Int32} {fxN scN pcN : Nat → Nat → Int32} {nd fbA lgA bs bw ndM co pa fi : Nat → Int32} {plan sa rest af we cv fd best : Nat → Int32} {ss k nk : Nat → Int64} {be : Int64} {bk sol least rep : Int32} (hfu : 4096 < fu) (W : Wd D lgN sB wB fbN fxN scN pcN nd fbA lgA bs bw ndM co pa fi) (hn : n < 3) (hd : d < D) (hB : BK2 D be bk sol least best) :
    ∃ z sa' ss' k' nk' V rep' best' rest' af' we' cv' fd', BR D True z V best' ∧ ((f_Wr_best fu (mI n) (mI d) be bk (mI D) (mI 0) (fbN 0) (mI (lgN 0)) (mI (so (sB 0) (wB 0))) (mI D) (scN 0) (pcN 0) (fxN 0) (mI 1) (fbN 1) (mI (lgN 1)) (mI (so (sB 1) (wB 1))) (mI D) (scN 1) (pcN 1) (fxN 1) (mI 2) (fbN 2) (mI (lgN 2)) (mI (so (sB 2) (wB 2))) (mI D) (scN 2) (pcN 2) (fxN 2) nd sa ss k nk = some (.inr (4, jJ z, 1, sa', ss', k', nk')) ∧ f_Wm_best fu (mI n) (mI d) (mI D) sol least rep fbA lgA bs bw ndM co pa fi best plan rest af we cv fd = some (0, 2, 1, iI V, rep', best', rest', af', we', cv', fd')) ∨ ∃ v, f_Wr_best fu (mI n) (mI d) be bk (mI D) (mI 0) (fbN 0) (mI (lgN 0)) (mI (so (sB 0) (wB 0))) (mI D) (scN 0) (pcN 0) (fxN 0) (mI 1) (fbN 1) (mI (lgN 1)) (mI (so (sB 1) (wB 1))) (mI D) (scN 1) (pcN 1) (fxN 1) (mI 2) (fbN 2) (mI (lgN 2)) (mI (so (sB 2) (wB 2))) (mI D) (scN 2) (pcN 2) (fxN 2) nd sa ss k nk = some (.inl (v, jJ z, 1, sa', ss', k', nk')) ∧ f_Wm_best fu (mI n) (mI d) (mI D) sol least rep fbA lgA bs bw ndM co pa fi best plan rest af we cv fd = some (v, 0, 1, iI V, rep', best', rest', af', we', cv', fd')) := by
  have hD := W.hD
  have hN : NO = 2 ^ 62 := by decide
  have hF : FAR = 1000000000 := rfl
  obtain ⟨z, sa', ss', k', nk', V, rep', best', rest', af', we', cv', fd', h1, h2, h3⟩ := ag_best (sa := sa) (ss := ss) (k := k) (nk := nk) (plan := plan) (rest := rest) (af := af) (we := we) (cv := cv) (fd := fd) (rep := rep) hfu W hB
  refine ⟨z, sa', ss', k', nk', V, rep', best', rest', af', we', cv', fd', h3, ?_⟩
  have eR : f_Wm_best fu (mI n) (mI d) (mI D) sol least rep fbA lgA bs bw ndM co pa fi best plan rest af we cv fd = (if iI V = 1000000000 then f_Wm_best_b52 (mI n) (mI d) 2 1 (iI V) rep' best' rest' af' we' cv' fd' else f_Wm_best_b52 (mI n) (mI d) 0 1 (iI V) rep' best' rest' af' we' cv' fd') := by
    unfold f_Wm_best f_Wm_best_b21
    rw [p_noNurse n hn, sb, if_pos rfl, p_noD hD hd, sb, if_pos rfl, if_pos rfl, h2, sb]
  have eC : f_Wr_best fu (mI n) (mI d) be bk (mI D) (mI 0) (fbN 0) (mI (lgN 0)) (mI (so (sB 0) (wB 0))) (mI D) (scN 0) (pcN 0) (fxN 0) (mI 1) (fbN 1) (mI (lgN 1)) (mI (so (sB 1) (wB 1))) (mI D) (scN 1) (pcN 1) (fxN 1) (mI 2) (fbN 2) (mI (lgN 2)) (mI (so (sB 2) (wB 2))) (mI D) (scN 2) (pcN 2) (fxN 2) nd sa ss k nk = (f_Wr_requireRoster (jJ z)).bind fun z17 => sm z17 (fun _ => (f_Wr_placeBit (mI n) (mI d)).bind fun v26 => (f_Wr_shiftAt (jJ z) v26).bind fun v29 => some (.inl (v29, jJ z, 1, sa', ss', k', nk'))) (fun bz17 => some (.inr (bz17, jJ z, 1, sa', ss', k', nk'))) := by
    unfold f_Wr_best
    rw [p_reqN n hn, sb]
    rw [sm_i]
    rw [p_reqD hD hd, sb]
    rw [sm_i]
    rw [h1, sb]
  rw [eC, eR]
  unfold f_Wr_requireRoster f_Wm_best_b52
  rw [NO_jJ, FAR_iI]
  rcases br_val hD h3 with ⟨b1, b2⟩ | ⟨c, b1, b2, b3, b4, b5, b6, b7, b8⟩
  · left
    rw [if_pos (by rw [b1]), if_pos (by rw [b2]), if_neg (by decide)]
    exact ⟨rfl, rfl⟩
  · right
    rw [if_neg (fun q => absurd ((jJ_inj (by omega) (by omega) (by omega) (by omega)).1 q) (by omega)), if_neg (fun q => absurd ((iI_inj (by omega) (by omega) (by omega) (by omega)).1 q) (by omega)), if_pos rfl]
    have e : 6 * mI n + mI d = mI (6 * n + d) := by
      show mI 6 * mI n + mI d = _
      rw [mI_mul, mI_add]
    have hdg := p_digit (W := V) (c := c) hD hd hn (by omega) (by omega) b8
    rw [← b2] at hdg
    obtain ⟨v, q1, q2⟩ := ob hdg
    refine ⟨best' (6 * n + d), ?_, ?_⟩
    · rw [sb, sm_i, q1, sb, q2, sb]
    · rw [e, gi_n (by omega) (by omega), sb]
theorem p_takeUp {fu : Nat} {plan fd : Nat → Int32} (hfu : 18 < fu) : ∃ plan', f_Wm_takeUp fu plan fd = some (1, plan') ∧ ∀ k, k < 18 → plan' k = fd k := by
  obtain ⟨r, g1, g2⟩ := q_copy (f := fd) (g := plan) (b := f_Wm_takeUp_l7 fd) hfu (fun vv => rfl)
  refine ⟨r.2, ?_, g2⟩
  unfold f_Wm_takeUp
  show (iter _ fu (mI 0, plan)).bind _ = _
  rw [g1, sb]
theorem ag_adopt {fu D : Nat} {lgN sB wB : Nat → Nat} {fbN : Nat → Int32} {fxN scN pcN : Nat → Nat → Int32} {nd fbA lgA bs bw ndM co pa fi : Nat → Int32} {plan sa rest af we cv fd best : Nat → Int32} {ss k nk : Nat → Int64} {be pl : Int64} {bk sol least isP rep : Int32} (hfu : 4096 < fu) (W : Wd D lgN sB wB fbN fxN scN pcN nd fbA lgA bs bw ndM co pa fi) (hB : BK2 D be bk sol least best) :
    ∃ z sa' ss' k' nk' V rep' best' plan' rest' af' we' cv' fd', BR D True z V best' ∧ ((f_Wr_adopt fu pl be bk (mI D) (mI 0) (fbN 0) (mI (lgN 0)) (mI (so (sB 0) (wB 0))) (mI D) (scN 0) (pcN 0) (fxN 0) (mI 1) (fbN 1) (mI (lgN 1)) (mI (so (sB 1) (wB 1))) (mI D) (scN 1) (pcN 1) (fxN 1) (mI 2) (fbN 2) (mI (lgN 2)) (mI (so (sB 2) (wB 2))) (mI D) (scN 2) (pcN 2) (fxN 2) nd sa ss k nk = some (.inr (4, pl, jJ z, 1, sa', ss', k', nk')) ∧ f_Wm_adopt fu (mI D) sol least isP rep fbA lgA bs bw ndM co pa fi best plan rest af we cv fd = some (0, 1, 1, iI V, isP, rep', best', plan, rest', af', we', cv', fd')) ∨ ∃ v, f_Wr_adopt fu pl be bk (mI D) (mI 0) (fbN 0) (mI (lgN 0)) (mI (so (sB 0) (wB 0))) (mI D) (scN 0) (pcN 0) (fxN 0) (mI 1) (fbN 1) (mI (lgN 1)) (mI (so (sB 1) (wB 1))) (mI D) (scN 1) (pcN 1) (fxN 1) (mI 2) (fbN 2) (mI (lgN 2)) (mI (so (sB 2) (wB 2))) (mI D) (scN 2) (pcN 2) (fxN 2) nd sa ss k nk = some (.inl (v, jJ z, jJ z, 1, sa', ss', k', nk')) ∧ f_Wm_adopt fu (mI D) sol least isP rep fbA lgA bs bw ndM co pa fi best plan rest af we cv fd = some (v, 0, 1, iI V, 1, rep', best', plan', rest', af', we', cv', fd') ∧ PlK D (jJ z) plan') := by
  have hD := W.hD
  have hN : NO = 2 ^ 62 := by decide
  have hF : FAR = 1000000000 := rfl
  obtain ⟨z, sa', ss', k', nk', V, rep', best', rest', af', we', cv', fd', h1, h2, h3⟩ := ag_best (sa := sa) (ss := ss) (k := k) (nk := nk) (plan := plan) (rest := rest) (af := af) (we := we) (cv := cv) (fd := fd) (rep := rep) hfu W hB
  have eR : f_Wm_adopt fu (mI D) sol least isP rep fbA lgA bs bw ndM co pa fi best plan rest af we cv fd = (if iI V = 1000000000 then f_Wm_adopt_b19 fu 1 1 (iI V) isP rep' best' plan rest' af' we' cv' fd' else f_Wm_adopt_b19 fu 0 1 (iI V) isP rep' best' plan rest' af' we' cv' fd') := by
    unfold f_Wm_adopt
    rw [h2, sb]
  have eC : f_Wr_adopt fu pl be bk (mI D) (mI 0) (fbN 0) (mI (lgN 0)) (mI (so (sB 0) (wB 0))) (mI D) (scN 0) (pcN 0) (fxN 0) (mI 1) (fbN 1) (mI (lgN 1)) (mI (so (sB 1) (wB 1))) (mI D) (scN 1) (pcN 1) (fxN 1) (mI 2) (fbN 2) (mI (lgN 2)) (mI (so (sB 2) (wB 2))) (mI D) (scN 2) (pcN 2) (fxN 2) nd sa ss k nk = (f_Wr_requireRoster (jJ z)).bind fun z8 => sm z8 (fun _ => (f_Wr_weightOf (jJ z)).bind fun v23 => some (.inl (v23, jJ z, jJ z, 1, sa', ss', k', nk'))) (fun bz8 => some (.inr (bz8, pl, jJ z, 1, sa', ss', k', nk'))) := by
    unfold f_Wr_adopt
    rw [h1, sb]
  rcases br_val hD h3 with ⟨b1, b2⟩ | ⟨c, b1, b2, b3, b4, b5, b6, b7, b8⟩
  · refine ⟨z, sa', ss', k', nk', V, rep', best', plan, rest', af', we', cv', fd', h3, .inl ⟨?_, ?_⟩⟩
    · rw [eC]
      unfold f_Wr_requireRoster
      rw [NO_jJ, if_pos (by rw [b1])]; rfl
    · rw [eR, FAR_iI, if_pos (by rw [b2])]
      unfold f_Wm_adopt_b19
      rw [if_neg (by decide)]
  · obtain ⟨r, g1, g2⟩ := q_copy (f := best') (g := fd') (b := f_Wm_adopt_l33 best') (by omega : 18 < fu) (fun vv => rfl)
    obtain ⟨plan', t1, t2⟩ := p_takeUp (plan := plan) (fd := r.2) (by omega : 18 < fu)
    refine ⟨z, sa', ss', k', nk', V, rep', best', plan', rest', af', we', cv', r.2, h3, .inr ⟨iI V, ?_, ?_, ?_⟩⟩
    · rw [eC]
      unfold f_Wr_requireRoster
      rw [NO_jJ, if_neg (fun q => absurd ((jJ_inj (by omega) (by omega) (by omega) (by omega)).1 q) (by omega)), sb]
      rw [sm_i]
      rw [p_weightOf (by omega) (by omega), sb, b7]
    · rw [eR, FAR_iI, if_neg (fun q => absurd ((iI_inj (by omega) (by omega) (by omega) (by omega)).1 q) (by omega))]
      unfold f_Wm_adopt_b19
      rw [if_pos rfl]
      show (iter _ fu (mI 0, fd')).bind _ = _
      rw [g1, sb, t1, sb]
    · refine ⟨V, c, b3, by omega, b1, by rw [← b2], ?_⟩
      exact fd_copy hD (fun k hk => by rw [t2 k hk, g2 k hk]) b8
def PlR (D : Nat) (pl : Int64) (isP : Int32) (plan : Nat → Int32) : Prop := (pl = jJ NO ∧ isP = 0) ∨ (isP = 1 ∧ PlK D pl plan)
theorem pk_no {D : Nat} {pl : Int64} {plan : Nat → Int32} (hD : D ≤ 6) (h : PlK D pl plan) : ¬ pl = jJ NO := by
  have hN : NO = 2 ^ 62 := by decide
  obtain ⟨wt, c, p1, p2, p3, p4, _⟩ := h
  have hb := code_bd hD p3
  rw [p4]
  exact fun q => absurd ((jJ_inj (by omega) (by omega) (by omega) (by omega)).1 q) (by omega)
theorem ag_repair {fu D : Nat} {lgN sB wB : Nat → Nat} {fbN : Nat → Int32} {fxN scN pcN : Nat → Nat → Int32} {nd fbA lgA bs bw ndM co pa fi : Nat → Int32} {plan sa rest af we cv fd : Nat → Int32} {ss k nk : Nat → Int64} {pl : Int64} {isP rep : Int32} (hfu : 4096 < fu) (W : Wd D lgN sB wB fbN fxN scN pcN nd fbA lgA bs bw ndM co pa fi) (hP : PlR D pl isP plan) :
    (f_Wr_repair fu pl (mI D) (mI 0) (fbN 0) (mI (lgN 0)) (mI (so (sB 0) (wB 0))) (mI D) (scN 0) (pcN 0) (fxN 0) (mI 1) (fbN 1) (mI (lgN 1)) (mI (so (sB 1) (wB 1))) (mI D) (scN 1) (pcN 1) (fxN 1) (mI 2) (fbN 2) (mI (lgN 2)) (mI (so (sB 2) (wB 2))) (mI D) (scN 2) (pcN 2) (fxN 2) nd sa ss k nk = some (.inr (3, pl, sa, ss, k, nk)) ∧ f_Wm_repair fu (mI D) isP rep fbA lgA bs bw ndM co pa fi plan rest af we cv fd = some (0, 1, isP, rep, plan, rest, af, we, cv, fd)) ∨ (∃ sa' ss' k' nk' rest' af' we' cv' fd', f_Wr_repair fu pl (mI D) (mI 0) (fbN 0) (mI (lgN 0)) (mI (so (sB 0) (wB 0))) (mI D) (scN 0) (pcN 0) (fxN 0) (mI 1) (fbN 1) (mI (lgN 1)) (mI (so (sB 1) (wB 1))) (mI D) (scN 1) (pcN 1) (fxN 1) (mI 2) (fbN 2) (mI (lgN 2)) (mI (so (sB 2) (wB 2))) (mI D) (scN 2) (pcN 2) (fxN 2) nd sa ss k nk = some (.inr (4, pl, sa', ss', k', nk')) ∧ f_Wm_repair fu (mI D) isP rep fbA lgA bs bw ndM co pa fi plan rest af we cv fd = some (0, 2, isP, 1, plan, rest', af', we', cv', fd')) ∨ ∃ v z sa' ss' k' nk' plan' rest' af' we' cv' fd', f_Wr_repair fu pl (mI D) (mI 0) (fbN 0) (mI (lgN 0)) (mI (so (sB 0) (wB 0))) (mI D) (scN 0) (pcN 0) (fxN 0) (mI 1) (fbN 1) (mI (lgN 1)) (mI (so (sB 1) (wB 1))) (mI D) (scN 1) (pcN 1) (fxN 1) (mI 2) (fbN 2) (mI (lgN 2)) (mI (so (sB 2) (wB 2))) (mI D) (scN 2) (pcN 2) (fxN 2) nd sa ss k nk = some (.inl (v, jJ z, sa', ss', k', nk')) ∧ f_Wm_repair fu (mI D) isP rep fbA lgA bs bw ndM co pa fi plan rest af we cv fd = some (v, 0, 1, 1, plan', rest', af', we', cv', fd') ∧ PlK D (jJ z) plan' := by
  have hD := W.hD
  have hN : NO = 2 ^ 62 := by decide
  have hF : FAR = 1000000000 := rfl
  rcases hP with ⟨rfl, rfl⟩ | ⟨rfl, hP⟩
  · left
    constructor
    · unfold f_Wr_repair f_Wr_requirePlan
      rw [NO_jJ, if_pos rfl]; rfl
    · unfold f_Wm_repair f_Wm_repair_b13
      rw [if_pos rfl, if_neg (by decide)]
  · right
    obtain ⟨z, sa', ss', k', nk', V, rest', af', we', cv', fd', h1, h2, h3⟩ := ag_search (sa := sa) (ss := ss) (k := k) (nk := nk) (plan := plan) (rest := rest) (af := af) (we := we) (cv := cv) (fd := fd) (rep := 1) (pl := pl) hfu W (.inr ⟨rfl, hP⟩)
    have eC : f_Wr_repair fu pl (mI D) (mI 0) (fbN 0) (mI (lgN 0)) (mI (so (sB 0) (wB 0))) (mI D) (scN 0) (pcN 0) (fxN 0) (mI 1) (fbN 1) (mI (lgN 1)) (mI (so (sB 1) (wB 1))) (mI D) (scN 1) (pcN 1) (fxN 1) (mI 2) (fbN 2) (mI (lgN 2)) (mI (so (sB 2) (wB 2))) (mI D) (scN 2) (pcN 2) (fxN 2) nd sa ss k nk = (f_Wr_requireRoster (jJ z)).bind fun z21 => sm z21 (fun _ => (f_Wr_weightOf (jJ z)).bind fun v30 => some (.inl ((v30 / 4096), jJ z, sa', ss', k', nk'))) (fun bz21 => some (.inr (bz21, pl, sa', ss', k', nk'))) := by
      unfold f_Wr_repair f_Wr_requirePlan
      rw [NO_jJ, if_neg (pk_no hD hP), sb]
      rw [sm_i]
      rw [h1, sb]
    have eR : f_Wm_repair fu (mI D) 1 rep fbA lgA bs bw ndM co pa fi plan rest af we cv fd = (if iI V = 1000000000 then f_Wm_repair_b47 fu (iI V) 2 1 1 plan rest' af' we' cv' fd' else f_Wm_repair_b47 fu (iI V) 0 1 1 plan rest' af' we' cv' fd') := by
      unfold f_Wm_repair f_Wm_repair_b13
      rw [if_neg (by decide), if_pos rfl, h2, sb]
    rcases h3 with ⟨b1, b2⟩ | ⟨c, P, C, a1, a2, a3, a4, a5, a6, a7, a8, a9⟩
    · left
      refine ⟨sa', ss', k', nk', rest', af', we', cv', fd', ?_, ?_⟩
      · rw [eC]
        unfold f_Wr_requireRoster
        rw [NO_jJ, if_pos (by rw [b1])]; rfl
      · rw [eR, FAR_iI, if_pos (by rw [b2])]
        unfold f_Wm_repair_b47
        rw [if_neg (by decide)]
    · right
      have hb := code_bd hD a1
      obtain ⟨plan', t1, t2⟩ := p_takeUp (plan := plan) (fd := fd') (by omega : 18 < fu)
      have hz : z / 2 ^ 36 = P + 4096 * C := by omega
      have hd1 : iI (P + 4096 * C) / 4096 = iI C := by
        have e1 : iI (P + 4096 * C) = mI (P + 4096 * C).toNat := by rw [mI_iI]; congr 1; omega
        have e2 : iI C = mI C.toNat := by rw [mI_iI]; congr 1; omega
        rw [e1, e2]
        show mI _ / mI 4096 = _
        rw [mI_div (by omega) (by omega)]
        congr 1
        omega
      have hd2 : iI (P + 100000 * C) / 100000 = iI C := by
        have e1 : iI (P + 100000 * C) = mI (P + 100000 * C).toNat := by rw [mI_iI]; congr 1; omega
        have e2 : iI C = mI C.toNat := by rw [mI_iI]; congr 1; omega
        rw [e1, e2]
        show mI _ / mI 100000 = _
        rw [mI_div (by omega) (by omega)]
        congr 1
        omega
      refine ⟨iI C, z, sa', ss', k', nk', plan', rest', af', we', cv', fd', ?_, ?_, ?_⟩
      · rw [eC]
        unfold f_Wr_requireRoster
        rw [NO_jJ, if_neg (fun q => absurd ((jJ_inj (by omega) (by omega) (by omega) (by omega)).1 q) (by omega)), sb]
        rw [sm_i]
        rw [p_weightOf (by omega) (by omega), sb, hz, hd1]
      · rw [eR, FAR_iI, if_neg (fun q => absurd ((iI_inj (by omega) (by omega) (by omega) (by omega)).1 q) (by omega))]
        unfold f_Wm_repair_b47
        rw [if_pos rfl, t1, sb, a3, hd2]
      · exact ⟨P + 4096 * C, c, by omega, by omega, a1, by rw [a2], fd_copy hD t2 a9⟩
theorem ag_planned {D n d : Nat} {pl : Int64} {isP : Int32} {plan : Nat → Int32} (hD : D ≤ 6) (hn : n < 3) (hd : d < D) (hP : PlR D pl isP plan) : ∃ v, f_Wr_planned (mI n) (mI d) pl (mI D) = some (.inl v) ∧ f_Wm_planned (mI n) (mI d) (mI D) isP plan = some (v, 0) := by
  have hN : NO = 2 ^ 62 := by decide
  unfold f_Wr_planned f_Wm_planned f_Wm_planned_b21
  rw [p_reqN n hn, sb, p_noNurse n hn, sb, if_pos rfl, p_noD hD hd, sb, if_pos rfl, if_pos rfl]
  rw [sm_i]
  rw [p_reqD hD hd, sb]
  rw [sm_i]
  rcases hP with ⟨rfl, rfl⟩ | ⟨rfl, hP⟩
  · rw [NO_jJ, if_pos rfl, if_pos rfl]
    exact ⟨_, rfl, rfl⟩
  · have hno := pk_no hD hP
    obtain ⟨wt, c, p1, p2, p3, p4, p5⟩ := hP
    have hb := code_bd hD p3
    rw [NO_jJ, if_neg hno, if_neg (by decide)]
    have hdg := p_digit (W := wt) (c := c) hD hd hn (by omega) (by omega) p5
    rw [← p4] at hdg
    obtain ⟨v, q1, q2⟩ := ob hdg
    have e : 6 * mI n + mI d = mI (6 * n + d) := by
      show mI 6 * mI n + mI d = _
      rw [mI_mul, mI_add]
    refine ⟨plan (6 * n + d), ?_, ?_⟩
    · rw [q1, sb, q2, sb]
    · rw [e, gi_n (by omega) (by omega), sb]
