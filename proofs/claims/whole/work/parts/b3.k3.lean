/-! need: the case of the law -/
theorem q3_at {q : Nat → Int64} {v : Int64} : sl 1 q 0 v = some (vp_updL q 0 v) := sl_n (k := 0) (by omega) (by omega)
theorem q3_get {q : Nat → Int64} {v : Int64} : gl 1 (vp_updL q 0 v) 0 = some v := by
  have := gl_n (n := 1) (k := 0) (f := vp_updL q 0 v) (by omega) (by omega)
  rw [updL_at, if_pos rfl] at this
  exact this
theorem ag_need {fu D : Nat} {a b c bk gl rc rounds bd sol : Int32} {nd q ndM qm : Nat → Int32} {q4 : Nat → Int64} (hfu : 24 < fu) (hD : D ≤ 6) (hnd : ∀ k, k < 24 → nd k = ndM k) :
    (∃ cd v, cd ≠ 0 ∧ f_La_need fu a b c bk (mI D) nd gl rc q q4 = some (cd, bk, nd, gl, rc, q, q4) ∧ f_Wm_need fu a b c (mI D) rounds bd sol ndM qm = some (v, cd, rounds, bd, sol, ndM, qm)) ∨ ∃ j v q' qm', 0 ≤ c.toInt ∧ c.toInt ≤ 3 ∧ (∀ k, k < 24 → q' k = 0) ∧ (∀ k, k < 24 → qm' k = 0) ∧ f_La_need fu a b c bk (mI D) nd gl rc q q4 = some (0, 0, upd nd j c, -1, 0, q', vp_updL q4 0 v.toInt64) ∧ f_Wm_need fu a b c (mI D) rounds bd sol ndM qm = some (v, 0, 0, -1, 0, upd ndM j c, qm') := by
  have bad : ∀ t, t ≠ 0 → f_Wm_need_b37 fu a b c t rounds bd sol ndM qm = some (0, t, rounds, bd, sol, ndM, qm) := by
    intro t ht
    unfold f_Wm_need_b37
    rw [if_neg ht]
  unfold f_La_need f_Wr_need f_Wm_need f_Wm_need_b19 f_Wm_need_b32
  rw [bad 1 (by decide), bad 2 (by decide)]
  rcases day_c a hD with ⟨h1, h2⟩ | ⟨d, hd, rfl⟩
  · left
    refine ⟨1, 0, by decide, ?_, ?_⟩
    · rw [h1, sb, sm_o, sb, sm_o]
      dsimp only
      rw [if_pos rfl]
    · rw [h2, sb, if_neg (by decide)]
  · rw [p_reqD hD hd, p_noD hD hd, sb, sb, sm_i, if_pos rfl]
    have b1 : (b < 1) ↔ b.toInt < 1 := lt_i (a := 1) (by omega) (by omega)
    have b4 : (b < 4) ↔ b.toInt < 4 := lt_i (a := 4) (by omega) (by omega)
    have b3 : (b ≤ 3) ↔ b.toInt ≤ 3 := le_i (a := 3) (by omega) (by omega)
    have c0 : (c < 0) ↔ c.toInt < 0 := lt_i (a := 0) (by omega) (by omega)
    have c3 : (c ≤ 3) ↔ c.toInt ≤ 3 := le_i (a := 3) (by omega) (by omega)
    unfold f_Wr_requireShift f_Wr_requireShift_b10
    by_cases hb1 : b.toInt < 1
    · left
      refine ⟨1, 0, by decide, ?_, ?_⟩
      · rw [if_pos (b1.2 hb1), sb, sm_o, sb, sm_o]
        dsimp only
        rw [if_pos rfl]
      · rw [if_pos (b1.2 hb1)]
    · rw [if_neg (fun q => hb1 (b1.1 q)), if_neg (fun q => hb1 (b1.1 q))]
      by_cases hb4 : b.toInt < 4
      · rw [if_pos (b4.2 hb4), sb, sm_i, if_pos (b3.2 (by omega))]
        rcases val_c c (lo := 0) (hi := 3) (by omega) (by omega) (by omega) (by omega) with ⟨v1, v2⟩ | ⟨v1, v2, v3⟩
        · left
          have v1 : f_Wr_requireValue c 0 3 = _ := v1
          refine ⟨2, 0, by decide, ?_, ?_⟩
          · rw [v1, sb, sm_o, sb, sm_o]
            dsimp only
            rw [if_neg (by decide), if_pos rfl]
          · rcases v2 with v2 | v2
            · rw [if_pos (c0.2 v2)]
            · rw [if_neg (fun q => absurd (c0.1 q) (by omega)), if_neg (fun q => absurd (c3.1 q) (by omega))]
        · right
          have v1 : f_Wr_requireValue c 0 3 = _ := v1
          obtain ⟨q', p1, p2⟩ := p_forget (q := q) hfu
          obtain ⟨qm', p3, p4⟩ := p_change (q := qm) hfu
          have hbs : b = mI b.toInt.toNat := i_nat (by omega)
          have hbn : b.toInt.toNat < 4 := by omega
          generalize b.toInt.toNat = s at hbs hbn
          subst hbs
          have e : 4 * mI d + mI s = mI (4 * d + s) := by
            show mI 4 * mI d + mI s = _
            rw [mI_mul, mI_add]
          refine ⟨4 * d + s, ndM (4 * d + s), q', qm', v2, v3, p2, p4, ?_, ?_⟩
          · rw [v1, sb, sm_i, p_cell, sb, gi_n (by omega) (by omega), sb, sb, si_n (by omega) (by omega), sb, p1, sb, sb, sm_i]
            dsimp only
            rw [q3_at, sb, hnd _ (by omega)]
          · rw [if_neg (fun q => absurd (c0.1 q) (by omega)), if_pos (c3.2 v3)]
            unfold f_Wm_need_b37
            rw [if_pos rfl, e, gi_n (by omega) (by omega), sb, si_n (by omega) (by omega), sb, p3, sb]
      · left
        refine ⟨1, 0, by decide, ?_, ?_⟩
        · rw [if_neg (fun q => hb4 (b4.1 q)), sb, sm_o, sb, sm_o]
          dsimp only
          rw [if_pos rfl]
        · rw [if_neg (fun q => absurd (b3.1 q) (by omega))]
theorem k3 {fu L i r : Nat} {xs : Nat → Int32} {gx : GX} {gm : GM} {q3 : Nat → Int64} (hfu : 4096 < fu) (hi : i + 5 ≤ L) (hL : L < 2 ^ 31) (hr : r + 12 < 10000) (h : Rel gx gm r) : ∃ gx' gm' q3' r', f_La_c3 fu L xs (mI i) gx gm q3 = some (.inl (mI (i + 5), gx', gm', q3')) ∧ Rel gx' gm' r' ∧ r' ≤ r + 12 := by
  obtain ⟨pl, be, bk, dc, n0, f0, g0, t0, d0, sc0, pc0, fx0, n1, f1, g1, t1, d1, sc1, pc1, fx1, n2, f2, g2, t2, d2, sc2, pc2, fx2, nd, wk, wnk, ww, wnw, sa, ss, sk, snk, gl, rc, q, np⟩ := gx
  obtain ⟨th, days, rounds, bd, sol, least, isP, leg, pen, rep, fbA, lgA, bs, bw, ndM, co, pa, fi, qm, cn, best, plan, rest, af, we, cv, fd⟩ := gm
  unfold Rel RelP at h
  dsimp only at h
  obtain ⟨D, lgN, sB, wB, ⟨e1, e2, e3, e4, e5, e6, e7, e8, e9, e10, e11, e12, e13, e14, e15⟩, W, hP, hB, hPl, hnp⟩ := h
  subst e1 e2 e3 e4 e5 e6 e7 e8 e9 e10 e11 e12 e13 e14 e15
  have hD := W.hD
  have ei : mI i + 5 = mI (i + 5) := mI_add i 5
  have x1 : gi L xs (mI i + 1) = some (xs (i + 1)) := arg_at (j := 1) (by omega) hL
  generalize xs (i + 1) = a1 at x1
  have x2 : gi L xs (mI i + 2) = some (xs (i + 2)) := arg_at (j := 2) (by omega) hL
  generalize xs (i + 2) = a2 at x2
  have x3 : gi L xs (mI i + 3) = some (xs (i + 3)) := arg_at (j := 3) (by omega) hL
  generalize xs (i + 3) = a3 at x3
  unfold f_La_c3
  dsimp only
  rw [x1, sb, x2, sb, x3, sb]
  rcases ag_need (fu := fu) (a := a1) (b := a2) (c := a3) (bk := bk) (gl := gl) (rc := rc) (rounds := mI r) (bd := bd) (sol := sol) (q := q) (qm := qm) (q4 := q3) (by omega) hD W.nd with ⟨cd, v, hcd, h1, h2⟩ | ⟨j, v, q', qm', hc0, hc3, z1, z2, h1, h2⟩
  · rw [h1, sb, sb, sb, sb, h2, sb, ei]
    unfold f_Wm_thrown
    rw [sb, if_pos rfl, if_neg hcd]
    exact ⟨_, _, _, r, rfl, ⟨D, lgN, sB, wB, ⟨rfl, rfl, rfl, rfl, rfl, rfl, rfl, rfl, rfl, rfl, rfl, rfl, rfl, rfl, rfl⟩, W, hP, hB, hPl, hnp⟩, by omega⟩
  · rw [h1, sb, sb, sb, sb, h2, sb, ei]
    unfold f_Wm_thrown
    rw [sb, if_pos rfl, if_pos rfl, q3_get, sb, if_pos rfl]
    exact ⟨_, _, _, 0, rfl, ⟨D, lgN, sB, wB, ⟨rfl, rfl, rfl, rfl, rfl, rfl, rfl, rfl, rfl, rfl, rfl, rfl, rfl, rfl, rfl⟩, wd_need W ⟨hc0, hc3⟩, pr_new z1 z2, .inl ⟨rfl, rfl⟩, hPl, hnp⟩, by omega⟩
