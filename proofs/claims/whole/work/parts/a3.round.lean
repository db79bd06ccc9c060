/-! class and reference play the same round -/
theorem q_r25 {fu D : Nat} {lgN sB wB x : Nat → Nat} {fbN : Nat → Int32} {fxN scN pcN : Nat → Nat → Int32} {nd fbA lgA bs bw ndM co pa fi qm cn : Nat → Int32} {l0 p0 : Int32} (hfu : 4096 < fu) (W : Wd D lgN sB wB fbN fxN scN pcN nd fbA lgA bs bw ndM co pa fi) (hx : ∀ n, n < 3 → x n < 4 ^ D) (hp : ∀ n, n < 3 → ∀ l0 p0, ∃ l1 p1, f_Wm_pricedLine fu (mI n) (mI D) l0 p0 fbA lgA bs bw co pa fi qm = some (mI (x n), l1, p1)) (hcn : ∀ k, k < 24 → cn k = 0) :
    ∃ r, iter (f_Wm_round_l25 fu (mI D) fbA lgA bs bw co pa fi qm) fu (iI 0, mI 0, l0, p0, cn) = some r ∧ r.1 = iI (sw (fun n => lpen D sB scN pcN n (x n) - rf_q qm D (x n)) 3) ∧ ∀ k, k < 24 → r.2.2.2.2 k = iI (cc D x k 3) := by
  have hD := W.hD
  refine iter_for (N := 3) (fun n (s : Int32 × Int32 × Int32 × Int32 × (Nat → Int32)) => s.2.1 = mI n ∧ s.1 = iI (sw (fun n => lpen D sB scN pcN n (x n) - rf_q qm D (x n)) n) ∧ ∀ k, k < 24 → s.2.2.2.2 k = iI (cc D x k n)) (P := fun (r : Int32 × Int32 × Int32 × Int32 × (Nat → Int32)) => r.1 = iI (sw (fun n => lpen D sB scN pcN n (x n) - rf_q qm D (x n)) 3) ∧ ∀ k, k < 24 → r.2.2.2.2 k = iI (cc D x k 3)) ?_ ?_ fu 0 (iI 0, mI 0, l0, p0, cn) (by omega) (by omega) ⟨rfl, rfl, fun k hk => by show cn k = _; rw [hcn k hk]; rfl⟩
  · rintro n ⟨s1, s2, l0, p0, cn⟩ hn ⟨h1, h2, h3⟩
    dsimp only at h1 h2 h3
    subst h1 h2
    obtain ⟨l1, p1, g1⟩ := hp n hn l0 p0
    obtain ⟨r, g2, g3⟩ := q_r58 (fu := fu) (by omega) hD (hx n hn) h3
    unfold f_Wm_round_l25
    dsimp only
    rw [if_neg (show ¬ (3 : Int32) ≤ mI n from fun q => absurd ((mI_le (a := 3) (by omega) (by omega)).1 q) (by omega)), g1, sb]
    dsimp only
    rw [p_walkR (by omega) hn hD (hx n hn) (W.sB n hn) (W.w4 hn) (W.lg n hn) (W.bs n hn) (W.bw n hn) (W.la n hn), sb, p_priceOfR (by omega) hD (hx n hn), sb]
    show ∃ a', ((iter _ fu (mI 0, cn)).bind _) = _ ∧ _
    rw [g2, sb, mI_1, pen_ref W hn]
    refine ⟨_, rfl, rfl, ?_, g3⟩
    dsimp only
    rw [iI_sub, iI_add]; rfl
  · rintro ⟨s1, s2, l0, p0, cn⟩ ⟨h1, h2, h3⟩
    dsimp only at h1 h2 h3
    subst h1 h2
    refine ⟨(iI (sw (fun n => lpen D sB scN pcN n (x n) - rf_q qm D (x n)) 3), mI 3, l0, p0, cn), ?_, rfl, h3⟩
    unfold f_Wm_round_l25
    dsimp only
    rw [if_pos (show (3 : Int32) ≤ mI 3 from (mI_le (a := 3) (by omega) (by omega)).2 (by omega))]
theorem p_roundR {fu D r : Nat} {lgN sB wB x : Nat → Nat} {fbN : Nat → Int32} {fxN scN pcN : Nat → Nat → Int32} {nd fbA lgA bs bw ndM co pa fi qm cn : Nat → Int32} {bd l0 p0 : Int32} (hfu : 4096 < fu) (hr : r < 10000) (W : Wd D lgN sB wB fbN fxN scN pcN nd fbA lgA bs bw ndM co pa fi) (hq : Lim 24 999 qm) (hx : ∀ n, n < 3 → x n < 4 ^ D) (hp : ∀ n, n < 3 → ∀ l0 p0, ∃ l1 p1, f_Wm_pricedLine fu (mI n) (mI D) l0 p0 fbA lgA bs bw co pa fi qm = some (mI (x n), l1, p1)) :
    ∃ l1 p1 qm' cn', f_Wm_round fu (mI D) (mI r) bd l0 p0 fbA lgA bs bw ndM co pa fi qm cn = some (mI (r + 1), (if r = 0 then iI (sw (fun n => lpen D sB scN pcN n (x n) - rf_q qm D (x n)) 3 + pn qm ndM (4 * D)) else if iI (sw (fun n => lpen D sB scN pcN n (x n) - rf_q qm D (x n)) 3 + pn qm ndM (4 * D)) ≤ bd then bd else iI (sw (fun n => lpen D sB scN pcN n (x n) - rf_q qm D (x n)) 3 + pn qm ndM (4 * D))), l1, p1, qm', cn') ∧ ∀ k, k < 24 → qm' k = if k < 4 * D then (if k % 4 = 0 then 0 else iI (clp ((qm k).toInt + gr r * ((ndM k).toInt - cc D x k 3)))) else qm k := by
  have hD := W.hD
  obtain ⟨r2, a1, a2⟩ := q_r2 (cn := cn) (by omega : 24 < fu)
  obtain ⟨r25, b1, b2, b3⟩ := q_r25 (l0 := l0) (p0 := p0) (nd := nd) hfu W hx hp a2
  obtain ⟨r102, c1, c2⟩ := q_r102 (q := qm) (nd := ndM) (S := sw (fun n => lpen D sB scN pcN n (x n) - rf_q qm D (x n)) 3) (by omega : 24 < fu) hD
  have hg := gr_bd r
  obtain ⟨r184, d1, d2⟩ := q_r184 (q := qm) (nd := ndM) (cn := r25.2.2.2.2) (ci := fun k => cc D x k 3) (by omega : 24 < fu) hD hq W.lnd hg.2 (fun k hk => ⟨b3 k hk, cc_bd 3⟩)
  have e1 : 1 + mI r = mI (r + 1) := by
    show mI 1 + mI r = _
    rw [mI_add, Nat.add_comm]
  have h16 : 16 / (r + 1) ≤ 16 := Nat.div_le_self _ _
  have e2 : (16 : Int32) / mI (r + 1) = mI (16 / (r + 1)) := mI_div (a := 16) (by omega) (by omega)
  have h158 : ∀ t l p, f_Wm_round_b158 fu t (mI D) (mI r) l p ndM qm r25.2.2.2.2 = some (mI (r + 1), t, l, p, r184.2, r25.2.2.2.2) := by
    intro t l p
    have h181 : f_Wm_round_b181 fu (mI (gr r)) (mI D) (mI r) t l p ndM qm r25.2.2.2.2 = some (mI (r + 1), t, l, p, r184.2, r25.2.2.2.2) := by
      unfold f_Wm_round_b181
      show (iter _ fu (mI 0, qm)).bind _ = _
      rw [d1, sb, mI_1]
    unfold f_Wm_round_b158
    rw [e1, if_neg (mI_ne0 (by omega) (by omega)), e2]
    by_cases h : 1 ≤ 16 / (r + 1)
    · rw [if_pos (show (1 : Int32) ≤ mI (16 / (r + 1)) from (mI_le (a := 1) (by omega) (by omega)).2 h)]
      have : gr r = 16 / (r + 1) := by
        unfold gr
        split
        · rfl
        · rename_i hn
          exfalso
          have : 16 / (r + 1) = 0 := Nat.div_eq_of_lt (by omega)
          omega
      rw [← this]; exact h181
    · rw [if_neg (show ¬ (1 : Int32) ≤ mI (16 / (r + 1)) from fun q => h ((mI_le (a := 1) (by omega) (by omega)).1 q))]
      have : gr r = 1 := by
        unfold gr
        split
        · rename_i hl
          exfalso
          apply h
          have := (gr_bd r).1
          unfold gr at this
          rw [if_pos hl] at this
          exact this
        · rfl
      rw [this] at h181
      exact h181
  have h150 : ∀ t l p, f_Wm_round_b150 fu t (mI D) (mI r) l p ndM qm r25.2.2.2.2 = some (mI (r + 1), t, l, p, r184.2, r25.2.2.2.2) := h158
  unfold f_Wm_round
  show ∃ l1 p1 qm' cn', ((iter _ fu (mI 0, cn)).bind _) = _ ∧ _
  rw [a1, sb]
  show ∃ l1 p1 qm' cn', ((iter _ fu (iI 0, mI 0, l0, p0, r2.2)).bind _) = _ ∧ _
  rw [b1, sb, b2]
  show ∃ l1 p1 qm' cn', ((iter _ fu (iI _, mI 0)).bind _) = _ ∧ _
  rw [c1, sb, c2, h150, h158]
  have er : (mI r = 0) ↔ r = 0 := mI_inj (b := 0) (by omega) (by omega)
  refine ⟨r25.2.2.1, r25.2.2.2.1, r184.2, r25.2.2.2.2, ?_, d2⟩
  by_cases h : r = 0
  · rw [if_pos (er.2 h), if_pos h]
  · rw [if_neg (fun q => h (er.1 q)), if_neg h]
    split <;> rfl
def PR (D : Nat) (gl rc : Int32) (q : Nat → Int32) (r : Nat) (bd : Int32) (qm : Nat → Int32) : Prop := rc = mI (m16 r) ∧ (∀ k, k < 24 → q k = qm k) ∧ Lim 24 999 q ∧ (∀ k, k < 24 → (k % 4 = 0 ∨ 4 * D ≤ k) → q k = 0) ∧ (r = 0 → gl = iI (-1) ∧ ∀ k, k < 24 → q k = 0) ∧ (r ≠ 0 → gl = bd ∧ 0 ≤ gl.toInt)
theorem sw3 (w : Nat → Int) : sw w 3 = w 0 + w 1 + w 2 := by
  show ((0 + w 0) + w 1) + w 2 = _
  omega
theorem lpen_bd {D n : Nat} {lgN sB wB : Nat → Nat} {fbN : Nat → Int32} {fxN scN pcN : Nat → Nat → Int32} {nd fbA lgA bs bw ndM co pa fi : Nat → Int32} (W : Wd D lgN sB wB fbN fxN scN pcN nd fbA lgA bs bw ndM co pa fi) (hn : n < 3) (c : Nat) : 0 ≤ lpen D sB scN pcN n c ∧ lpen D sB scN pcN n c ≤ 1188 := by
  have := rf_p_bd (W.sB n hn) (W.lsc hn) (W.lpc hn) D W.hD c
  have hD := W.hD
  unfold lpen
  omega
theorem ag_round {fu D r : Nat} {lgN sB wB : Nat → Nat} {fbN : Nat → Int32} {fxN scN pcN : Nat → Nat → Int32} {nd fbA lgA bs bw ndM co pa fi q qm cn w nw : Nat → Int32} {k nk : Nat → Int64} {gl rc bd l0 p0 : Int32} (hfu : 4096 < fu) (hr : r < 10000) (W : Wd D lgN sB wB fbN fxN scN pcN nd fbA lgA bs bw ndM co pa fi) (hex : ∀ n, n < 3 → ∃ c, c < 4 ^ D ∧ lok D lgN sB wB fbN fxN n c = true) (hP : PR D gl rc q r bd qm) :
    ∃ gl' rc' q' k' nk' w' nw' bd' l1 p1 qm' cn', f_Pr_playRound fu gl rc q (mI D) (mI 0) (fbN 0) (mI (lgN 0)) (mI (so (sB 0) (wB 0))) (mI D) (scN 0) (pcN 0) (fxN 0) (mI 1) (fbN 1) (mI (lgN 1)) (mI (so (sB 1) (wB 1))) (mI D) (scN 1) (pcN 1) (fxN 1) (mI 2) (fbN 2) (mI (lgN 2)) (mI (so (sB 2) (wB 2))) (mI D) (scN 2) (pcN 2) (fxN 2) nd k nk w nw = some (gl', rc', q', k', nk', w', nw') ∧ f_Wm_round fu (mI D) (mI r) bd l0 p0 fbA lgA bs bw ndM co pa fi qm cn = some (mI (r + 1), bd', l1, p1, qm', cn') ∧ PR D gl' rc' q' (r + 1) bd' qm' := by
  have hD := W.hD
  have hD1 := W.hD1
  obtain ⟨p1, p2, p3, p4, p5, p6⟩ := hP
  have hqm : Lim 24 999 qm := fun k hk => by rw [← p2 k hk]; exact p3 k hk
  have pick : ∀ n, n < 3 → ∃ c, c < 4 ^ D ∧ (∀ k nk w nw, ∃ k' nk' w' nw', f_Lw_walkLines fu k nk w nw (mI n) (fbN n) (mI (lgN n)) (mI (so (sB n) (wB n))) (mI D) (scN n) (pcN n) (fxN n) q = some (jJ ((lpen D sB scN pcN n c - rf_q q D c) * 2 ^ 36 + rf_g n D c), k', nk', w', nw')) ∧ ∀ l0 p0, ∃ l1 p1, f_Wm_pricedLine fu (mI n) (mI D) l0 p0 fbA lgA bs bw co pa fi qm = some (mI c, l1, p1) := by
    intro n hn
    obtain ⟨z, pi, h1, h2, h3⟩ := ag_line hfu W hn p3 p2
    rcases h1 with ⟨_, _, h⟩ | ⟨c, c1, c2, c3, c4⟩
    · obtain ⟨c, c1, c2⟩ := hex n hn
      rw [h c c1] at c2; cases c2
    · subst c3 c4
      exact ⟨c, c1, h2, h3⟩
  obtain ⟨x0, x01, x02, x03⟩ := pick 0 (by omega)
  obtain ⟨x1, x11, x12, x13⟩ := pick 1 (by omega)
  obtain ⟨x2, x21, x22, x23⟩ := pick 2 (by omega)
  obtain ⟨k1, nk1, w1, nw1, y1⟩ := x02 k nk w nw
  obtain ⟨k2, nk2, w2, nw2, y2⟩ := x12 k1 nk1 w1 nw1
  obtain ⟨k3, nk3, w3, nw3, y3⟩ := x22 k2 nk2 w2 nw2
  obtain ⟨l1, pp1, qm', cn', z1, z2⟩ := p_roundR (x := pk x0 x1 x2) (bd := bd) (l0 := l0) (p0 := p0) (cn := cn) hfu hr W hqm
    (by
      intro n hn
      rcases n3 hn with rfl | rfl | rfl
      · exact x01
      · exact x11
      · exact x21)
    (by
      intro n hn
      rcases n3 hn with rfl | rfl | rfl
      · exact x03
      · exact x13
      · exact x23)
  have hq0 := rf_q_bd p3 D hD x0
  have hq1 := rf_q_bd p3 D hD x1
  have hq2 := rf_q_bd p3 D hD x2
  have hp0 := lpen_bd W (by omega : 0 < 3) x0
  have hp1 := lpen_bd W (by omega : 1 < 3) x1
  have hp2 := lpen_bd W (by omega : 2 < 3) x2
  have hD' : (D : Int) ≤ 6 := by omega
  have hcb := code_bd hD (il_lt D x0 x1 x2)
  have eS : sw (fun n => lpen D sB scN pcN n (pk x0 x1 x2 n) - rf_q qm D (pk x0 x1 x2 n)) 3 = (lpen D sB scN pcN 0 x0 - rf_q q D x0) + (lpen D sB scN pcN 1 x1 - rf_q q D x1) + (lpen D sB scN pcN 2 x2 - rf_q q D x2) := by
    rw [sw3]
    show (lpen D sB scN pcN 0 x0 - rf_q qm D x0) + (lpen D sB scN pcN 1 x1 - rf_q qm D x1) + (lpen D sB scN pcN 2 x2 - rf_q qm D x2) = _
    rw [rf_q_congr p2 D hD, rf_q_congr p2 D hD, rf_q_congr p2 D hD]
  rw [eS] at z1
  have ez : ((0 + jJ ((lpen D sB scN pcN 0 x0 - rf_q q D x0) * 2 ^ 36 + rf_g 0 D x0)) + jJ ((lpen D sB scN pcN 1 x1 - rf_q q D x1) * 2 ^ 36 + rf_g 1 D x1)) + jJ ((lpen D sB scN pcN 2 x2 - rf_q q D x2) * 2 ^ 36 + rf_g 2 D x2) = jJ (((lpen D sB scN pcN 0 x0 - rf_q q D x0) + (lpen D sB scN pcN 1 x1 - rf_q q D x1) + (lpen D sB scN pcN 2 x2 - rf_q q D x2)) * 2 ^ 36 + (il D x0 x1 x2 : Int) * 4 ^ (18 - 3 * D)) := by
    show ((jJ 0 + _) + _) + _ = _
    rw [jJ_add, jJ_add, jJ_add, Int.zero_add, keys3 hD]
  have hms : ∀ W' : Int, ∀ k, k < 4 * D → ms (W' * 2 ^ 36 + (il D x0 x1 x2 : Int) * 4 ^ (18 - 3 * D)) (k / 4) (k % 4) 3 = cc D (pk x0 x1 x2) k 3 := by
    intro W' k hk
    have hkd : k / 4 < D := by omega
    have : ∀ n, n ≤ 3 → ms (W' * 2 ^ 36 + (il D x0 x1 x2 : Int) * 4 ^ (18 - 3 * D)) (k / 4) (k % 4) n = cc D (pk x0 x1 x2) k n := by
      intro n
      induction n with
      | zero => intro _; rfl
      | succ n ih =>
        intro hn
        unfold ms cc
        rw [ih (by omega), dg_il hkd hD (by omega), show D - 1 - k / 4 = D - (k / 4 + 1) by omega]
        have : (k / 4 < D ∧ pk x0 x1 x2 n / 4 ^ (D - (k / 4 + 1)) % 4 = k % 4) ↔ pk x0 x1 x2 n / 4 ^ (D - (k / 4 + 1)) % 4 = k % 4 := ⟨fun h => h.2, fun h => ⟨hkd, h⟩⟩
        simp only [this]
    exact this 3 (Nat.le_refl 3)
  generalize hS : (lpen D sB scN pcN 0 x0 - rf_q q D x0) + (lpen D sB scN pcN 1 x1 - rf_q q D x1) + (lpen D sB scN pcN 2 x2 - rf_q q D x2) = S at *
  have hSb : -20000 ≤ S ∧ S ≤ 20000 := by omega
  generalize hc : (il D x0 x1 x2 : Int) * 4 ^ (18 - 3 * D) = c at *
  obtain ⟨q', m1, m2⟩ := p_movePrices (r := r) (z := S * 2 ^ 36 + c) (by omega : 24 < fu) hD p3 W.lnd' (by omega) (by omega)
  have hdiv : (S * 2 ^ 36 + c) / 2 ^ 36 = S := by omega
  have hpn := pn_bd p3 W.lnd' 24 (Nat.le_refl _)
  have hst : pn q nd 24 = pn qm ndM (4 * D) := by
    have := pn_stop (q := q) (nd := nd) (m := 4 * D) (fun k hk h => p4 k hk (.inr h)) (24 - 4 * D) (by omega)
    rw [show 4 * D + (24 - 4 * D) = 24 by omega] at this
    rw [this]
    exact pn_congr p2 W.nd (4 * D) (by omega)
  have hC : f_Pr_playRound fu gl rc q (mI D) (mI 0) (fbN 0) (mI (lgN 0)) (mI (so (sB 0) (wB 0))) (mI D) (scN 0) (pcN 0) (fxN 0) (mI 1) (fbN 1) (mI (lgN 1)) (mI (so (sB 1) (wB 1))) (mI D) (scN 1) (pcN 1) (fxN 1) (mI 2) (fbN 2) (mI (lgN 2)) (mI (so (sB 2) (wB 2))) (mI D) (scN 2) (pcN 2) (fxN 2) nd k nk w nw = some ((if gl < (iI S + iI (pn q nd 24)) then (iI S + iI (pn q nd 24)) else gl), mI (m16 (r + 1)), q', k3, nk3, w3, nw3) := by
    unfold f_Pr_playRound
    rw [y1, sb]
    dsimp only
    rw [y2, sb]
    dsimp only
    rw [y3, sb]
    dsimp only
    rw [ez, p_weightOf (by omega) (by omega), sb, hdiv, p_priceOfNeeds (by omega), sb, p1, m1, sb]
  refine ⟨_, _, _, _, _, _, _, _, _, _, _, _, hC, z1, ?_⟩
  · have eq : ∀ k, k < 24 → q' k = qm' k := by
      intro k hk
      rw [m2 k hk, z2 k hk]
      dsimp only
      by_cases h1 : k < 4 * D
      · rw [if_pos h1]
        by_cases h2 : k % 4 = 0
        · rw [if_neg (fun h => h.2 h2), if_pos h2]; exact p4 k hk (.inl h2)
        · rw [if_pos ⟨h1, h2⟩, if_neg h2, hms S k h1, p2 k hk, W.nd k hk]
      · rw [if_neg (fun h => h1 h.1), if_neg h1]; exact p2 k hk
    have hz : ∀ k, k < 24 → (k % 4 = 0 ∨ 4 * D ≤ k) → q' k = 0 := by
      intro k hk h
      rw [m2 k hk, if_neg]
      · exact p4 k hk h
      · rintro ⟨h1, h2⟩; rcases h with h | h
        · exact h2 h
        · omega
    refine ⟨rfl, eq, ?_, hz, fun h => by omega, fun _ => ?_⟩
    · intro k hk
      rw [m2 k hk]
      dsimp only
      split
      · have := clp_bd ((q k).toInt + gr r * ((nd k).toInt - ms (S * 2 ^ 36 + c) (k / 4) (k % 4) 3))
        rw [iI_toInt (by omega) (by omega)]; exact this
      · exact p3 k hk
    · rw [iI_add, hst]
      rw [hst] at hpn
      generalize pn qm ndM (4 * D) = pq at *
      by_cases h0 : r = 0
      · obtain ⟨g1, g2⟩ := p5 h0
        have r0 := rf_q_zero g2 D hD
        rw [r0, r0, r0] at hS
        rw [g1, if_pos h0, if_pos ((iI_lt (by omega) (by omega) (by omega) (by omega)).2 (by omega))]
        refine ⟨rfl, ?_⟩
        rw [iI_toInt (by omega) (by omega)]
        omega
      · obtain ⟨g1, g2⟩ := p6 h0
        rw [if_neg h0, ← g1]
        have el : (gl < iI (S + pq)) ↔ gl.toInt < S + pq := by rw [Int32.lt_iff_toInt_lt, iI_toInt (by omega) (by omega)]
        have el2 : (iI (S + pq) ≤ gl) ↔ S + pq ≤ gl.toInt := by rw [Int32.le_iff_toInt_le, iI_toInt (by omega) (by omega)]
        by_cases h : gl.toInt < S + pq
        · rw [if_pos (el.2 h), if_neg (fun q => absurd (el2.1 q) (by omega))]
          refine ⟨rfl, ?_⟩
          rw [iI_toInt (by omega) (by omega)]
          omega
        · rw [if_neg (fun q => h (el.1 q)), if_pos (el2.2 (by omega))]
          exact ⟨rfl, g2⟩
