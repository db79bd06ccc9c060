/-! adopt, repair, planned: the cases of the law -/
theorem k15 {fu L i r : Nat} {xs : Nat → Int32} {gx : GX} {gm : GM} {q3 : Nat → Int64} (hfu : 4096 < fu) (hi : i + 5 ≤ L) (hL : L < 2 ^ 31) (hr : r + 12 < 10000) (h : Rel gx gm r) : ∃ gx' gm' q3' r', f_La_c15 fu L xs (mI i) gx gm q3 = some (.inl (mI (i + 5), gx', gm', q3')) ∧ Rel gx' gm' r' ∧ r' ≤ r + 12 := by
  obtain ⟨pl, be, bk, dc, n0, f0, g0, t0, d0, sc0, pc0, fx0, n1, f1, g1, t1, d1, sc1, pc1, fx1, n2, f2, g2, t2, d2, sc2, pc2, fx2, nd, wk, wnk, ww, wnw, sa, ss, sk, snk, gl, rc, q, np⟩ := gx
  obtain ⟨th, days, rounds, bd, sol, least, isP, leg, pen, rep, fbA, lgA, bs, bw, ndM, co, pa, fi, qm, cn, best, plan, rest, af, we, cv, fd⟩ := gm
  unfold Rel RelP at h
  dsimp only at h
  obtain ⟨D, lgN, sB, wB, ⟨e1, e2, e3, e4, e5, e6, e7, e8, e9, e10, e11, e12, e13, e14, e15⟩, W, hP, hB, hPl, hnp⟩ := h
  subst e1 e2 e3 e4 e5 e6 e7 e8 e9 e10 e11 e12 e13 e14 e15
  have hD := W.hD
  have ei : mI i + 5 = mI (i + 5) := mI_add i 5
  unfold f_La_c15
  dsimp only
  obtain ⟨z, sa', ss', k', nk', V, rep', best', plan', rest', af', we', cv', fd', h3, h⟩ := ag_adopt (sa := sa) (ss := ss) (k := sk) (nk := snk) (plan := plan) (rest := rest) (af := af) (we := we) (cv := cv) (fd := fd) (rep := rep) (pl := pl) (isP := isP) hfu W hB
  rcases h with ⟨h1, h2⟩ | ⟨v, h1, h2, h4⟩
  · have h1 : f_Wr_adopt fu pl be bk (mI D) (mI 0) f0 (mI (lgN 0)) (mI (so (sB 0) (wB 0))) (mI D) sc0 pc0 fx0 (mI 1) f1 (mI (lgN 1)) (mI (so (sB 1) (wB 1))) (mI D) sc1 pc1 fx1 (mI 2) f2 (mI (lgN 2)) (mI (so (sB 2) (wB 2))) (mI D) sc2 pc2 fx2 nd sa ss sk snk = _ := h1
    have g1 : f_La_adopt fu pl be bk (mI D) (mI 0) f0 (mI (lgN 0)) (mI (so (sB 0) (wB 0))) (mI D) sc0 pc0 fx0 (mI 1) f1 (mI (lgN 1)) (mI (so (sB 1) (wB 1))) (mI D) sc1 pc1 fx1 (mI 2) f2 (mI (lgN 2)) (mI (so (sB 2) (wB 2))) (mI D) sc2 pc2 fx2 nd sa ss sk snk q3 = some (1, pl, jJ z, 1, sa', ss', k', nk', q3) := by
      unfold f_La_adopt
      rw [h1, sb, sm_o]
      dsimp only
      rw [if_pos rfl]
    rw [g1, sb, h2, sb, ei]
    unfold f_Wm_thrown
    rw [sb, if_pos rfl]
    dsimp only
    rw [if_neg (by decide)]
    exact ⟨_, _, _, r, rfl, ⟨D, lgN, sB, wB, ⟨rfl, rfl, rfl, rfl, rfl, rfl, rfl, rfl, rfl, rfl, rfl, rfl, rfl, rfl, rfl⟩, W, hP, .inr ⟨rfl, rfl, z, V, rfl, rfl, h3⟩, hPl, hnp⟩, by omega⟩
  · have h1 : f_Wr_adopt fu pl be bk (mI D) (mI 0) f0 (mI (lgN 0)) (mI (so (sB 0) (wB 0))) (mI D) sc0 pc0 fx0 (mI 1) f1 (mI (lgN 1)) (mI (so (sB 1) (wB 1))) (mI D) sc1 pc1 fx1 (mI 2) f2 (mI (lgN 2)) (mI (so (sB 2) (wB 2))) (mI D) sc2 pc2 fx2 nd sa ss sk snk = _ := h1
    have g1 : f_La_adopt fu pl be bk (mI D) (mI 0) f0 (mI (lgN 0)) (mI (so (sB 0) (wB 0))) (mI D) sc0 pc0 fx0 (mI 1) f1 (mI (lgN 1)) (mI (so (sB 1) (wB 1))) (mI D) sc1 pc1 fx1 (mI 2) f2 (mI (lgN 2)) (mI (so (sB 2) (wB 2))) (mI D) sc2 pc2 fx2 nd sa ss sk snk q3 = some (0, jJ z, jJ z, 1, sa', ss', k', nk', vp_updL q3 0 v.toInt64) := by
      unfold f_La_adopt
      rw [h1, sb, sm_i]
      dsimp only
      rw [q3_at, sb]
    rw [g1, sb, h2, sb, ei]
    unfold f_Wm_thrown
    rw [sb, if_pos rfl, if_pos rfl, q3_get, sb, if_pos rfl]
    exact ⟨_, _, _, r, rfl, ⟨D, lgN, sB, wB, ⟨rfl, rfl, rfl, rfl, rfl, rfl, rfl, rfl, rfl, rfl, rfl, rfl, rfl, rfl, rfl⟩, W, hP, .inr ⟨rfl, rfl, z, V, rfl, rfl, h3⟩, .inr ⟨rfl, h4⟩, hnp⟩, by omega⟩
theorem k16 {fu L i r : Nat} {xs : Nat → Int32} {gx : GX} {gm : GM} {q3 : Nat → Int64} (hfu : 4096 < fu) (hi : i + 5 ≤ L) (hL : L < 2 ^ 31) (hr : r + 12 < 10000) (h : Rel gx gm r) : ∃ gx' gm' q3' r', f_La_c16 fu L xs (mI i) gx gm q3 = some (.inl (mI (i + 5), gx', gm', q3')) ∧ Rel gx' gm' r' ∧ r' ≤ r + 12 := by
  obtain ⟨pl, be, bk, dc, n0, f0, g0, t0, d0, sc0, pc0, fx0, n1, f1, g1, t1, d1, sc1, pc1, fx1, n2, f2, g2, t2, d2, sc2, pc2, fx2, nd, wk, wnk, ww, wnw, sa, ss, sk, snk, gl, rc, q, np⟩ := gx
  obtain ⟨th, days, rounds, bd, sol, least, isP, leg, pen, rep, fbA, lgA, bs, bw, ndM, co, pa, fi, qm, cn, best, plan, rest, af, we, cv, fd⟩ := gm
  unfold Rel RelP at h
  dsimp only at h
  obtain ⟨D, lgN, sB, wB, ⟨e1, e2, e3, e4, e5, e6, e7, e8, e9, e10, e11, e12, e13, e14, e15⟩, W, hP, hB, hPl, hnp⟩ := h
  subst e1 e2 e3 e4 e5 e6 e7 e8 e9 e10 e11 e12 e13 e14 e15
  have hD := W.hD
  have ei : mI i + 5 = mI (i + 5) := mI_add i 5
  unfold f_La_c16
  dsimp only
  rcases ag_repair (sa := sa) (ss := ss) (k := sk) (nk := snk) (rest := rest) (af := af) (we := we) (cv := cv) (fd := fd) (rep := rep) hfu W hPl with ⟨h1, h2⟩ | ⟨sa', ss', k', nk', rest', af', we', cv', fd', h1, h2⟩ | ⟨v, z, sa', ss', k', nk', plan', rest', af', we', cv', fd', h1, h2, h4⟩
  · have h1 : f_Wr_repair fu pl (mI D) (mI 0) f0 (mI (lgN 0)) (mI (so (sB 0) (wB 0))) (mI D) sc0 pc0 fx0 (mI 1) f1 (mI (lgN 1)) (mI (so (sB 1) (wB 1))) (mI D) sc1 pc1 fx1 (mI 2) f2 (mI (lgN 2)) (mI (so (sB 2) (wB 2))) (mI D) sc2 pc2 fx2 nd sa ss sk snk = _ := h1
    have g1 : f_La_repair fu pl (mI D) (mI 0) f0 (mI (lgN 0)) (mI (so (sB 0) (wB 0))) (mI D) sc0 pc0 fx0 (mI 1) f1 (mI (lgN 1)) (mI (so (sB 1) (wB 1))) (mI D) sc1 pc1 fx1 (mI 2) f2 (mI (lgN 2)) (mI (so (sB 2) (wB 2))) (mI D) sc2 pc2 fx2 nd sa ss sk snk q3 = some (1, pl, sa, ss, sk, snk, q3) := by
      unfold f_La_repair
      rw [h1, sb, sm_o]
      dsimp only
      rw [if_pos rfl]
    rw [g1, sb, h2, sb, ei]
    unfold f_Wm_thrown
    rw [sb, if_pos rfl]
    dsimp only
    rw [if_neg (by decide)]
    exact ⟨_, _, _, r, rfl, ⟨D, lgN, sB, wB, ⟨rfl, rfl, rfl, rfl, rfl, rfl, rfl, rfl, rfl, rfl, rfl, rfl, rfl, rfl, rfl⟩, W, hP, hB, hPl, hnp⟩, by omega⟩
  · have h1 : f_Wr_repair fu pl (mI D) (mI 0) f0 (mI (lgN 0)) (mI (so (sB 0) (wB 0))) (mI D) sc0 pc0 fx0 (mI 1) f1 (mI (lgN 1)) (mI (so (sB 1) (wB 1))) (mI D) sc1 pc1 fx1 (mI 2) f2 (mI (lgN 2)) (mI (so (sB 2) (wB 2))) (mI D) sc2 pc2 fx2 nd sa ss sk snk = _ := h1
    have g1 : f_La_repair fu pl (mI D) (mI 0) f0 (mI (lgN 0)) (mI (so (sB 0) (wB 0))) (mI D) sc0 pc0 fx0 (mI 1) f1 (mI (lgN 1)) (mI (so (sB 1) (wB 1))) (mI D) sc1 pc1 fx1 (mI 2) f2 (mI (lgN 2)) (mI (so (sB 2) (wB 2))) (mI D) sc2 pc2 fx2 nd sa ss sk snk q3 = some (2, pl, sa', ss', k', nk', q3) := by
      unfold f_La_repair
      rw [h1, sb, sm_o]
      dsimp only
      rw [if_neg (by decide), if_pos rfl]
    rw [g1, sb, h2, sb, ei]
    unfold f_Wm_thrown
    rw [sb, if_pos rfl]
    dsimp only
    rw [if_neg (by decide)]
    exact ⟨_, _, _, r, rfl, ⟨D, lgN, sB, wB, ⟨rfl, rfl, rfl, rfl, rfl, rfl, rfl, rfl, rfl, rfl, rfl, rfl, rfl, rfl, rfl⟩, W, hP, hB, hPl, hnp⟩, by omega⟩
  · have h1 : f_Wr_repair fu pl (mI D) (mI 0) f0 (mI (lgN 0)) (mI (so (sB 0) (wB 0))) (mI D) sc0 pc0 fx0 (mI 1) f1 (mI (lgN 1)) (mI (so (sB 1) (wB 1))) (mI D) sc1 pc1 fx1 (mI 2) f2 (mI (lgN 2)) (mI (so (sB 2) (wB 2))) (mI D) sc2 pc2 fx2 nd sa ss sk snk = _ := h1
    have g1 : f_La_repair fu pl (mI D) (mI 0) f0 (mI (lgN 0)) (mI (so (sB 0) (wB 0))) (mI D) sc0 pc0 fx0 (mI 1) f1 (mI (lgN 1)) (mI (so (sB 1) (wB 1))) (mI D) sc1 pc1 fx1 (mI 2) f2 (mI (lgN 2)) (mI (so (sB 2) (wB 2))) (mI D) sc2 pc2 fx2 nd sa ss sk snk q3 = some (0, jJ z, sa', ss', k', nk', vp_updL q3 0 v.toInt64) := by
      unfold f_La_repair
      rw [h1, sb, sm_i]
      dsimp only
      rw [q3_at, sb]
    rw [g1, sb, h2, sb, ei]
    unfold f_Wm_thrown
    rw [sb, if_pos rfl, if_pos rfl, q3_get, sb, if_pos rfl]
    exact ⟨_, _, _, r, rfl, ⟨D, lgN, sB, wB, ⟨rfl, rfl, rfl, rfl, rfl, rfl, rfl, rfl, rfl, rfl, rfl, rfl, rfl, rfl, rfl⟩, W, hP, hB, .inr ⟨rfl, h4⟩, hnp⟩, by omega⟩
theorem k17 {fu L i r : Nat} {xs : Nat → Int32} {gx : GX} {gm : GM} {q3 : Nat → Int64} (hfu : 4096 < fu) (hi : i + 5 ≤ L) (hL : L < 2 ^ 31) (hr : r + 12 < 10000) (h : Rel gx gm r) : ∃ gx' gm' q3' r', f_La_c17 fu L xs (mI i) gx gm q3 = some (.inl (mI (i + 5), gx', gm', q3')) ∧ Rel gx' gm' r' ∧ r' ≤ r + 12 := by
  obtain ⟨pl, be, bk, dc, n0, f0, g0, t0, d0, sc0, pc0, fx0, n1, f1, g1, t1, d1, sc1, pc1, fx1, n2, f2, g2, t2, d2, sc2, pc2, fx2, nd, wk, wnk, ww, wnw, sa, ss, sk, snk, gl, rc, q, np⟩ := gx
  obtain ⟨th, days, rounds, bd, sol, least, isP, leg, pen, rep, fbA, lgA, bs, bw, ndM, co, pa, fi, qm, cn, best, plan, rest, af, we, cv, fd⟩ := gm
  unfold Rel RelP at h
  dsimp only at h
  obtain ⟨D, lgN, sB, wB, ⟨e1, e2, e3, e4, e5, e6, e7, e8, e9, e10, e11, e12, e13, e14, e15⟩, W, hP, hB, hPl, hnp⟩ := h
  subst e1 e2 e3 e4 e5 e6 e7 e8 e9 e10 e11 e12 e13 e14 e15
  have hD := W.hD
  have ei : mI i + 5 = mI (i + 5) := mI_add i 5
  have x1 : gi L xs (mI i + 1) = some (xs (i + 1)) := arg_at (j := 1) (by omega) hL
  generalize xs (i + 1) = a1 at x1
  have x2 : gi L xs (mI i + 2) = some (xs (i + 2)) := arg_at (j := 2) (by omega) hL
  generalize xs (i + 2) = a2 at x2
  unfold f_La_c17
  dsimp only
  rw [x1, sb, x2, sb]
  have fin : (f_La_planned a1 a2 pl (mI D) q3 = some (1, q3) ∧ f_Wm_planned a1 a2 (mI D) isP plan = some (0, 1)) ∨ ∃ n d, n < 3 ∧ d < D ∧ a1 = mI n ∧ a2 = mI d := by
    rcases nurse_c a1 with ⟨h1, h2⟩ | ⟨n, hn, rfl⟩
    · left
      unfold f_La_planned f_Wr_planned f_Wm_planned f_Wm_planned_b16 f_Wm_planned_b21
      rw [h1, sb, sm_o, sb, sm_o, if_pos rfl, h2, sb, if_neg (by decide), if_neg (by decide)]
      exact ⟨rfl, rfl⟩
    · rcases day_c a2 hD with ⟨h1, h2⟩ | ⟨d, hd, rfl⟩
      · left
        unfold f_La_planned f_Wr_planned f_Wm_planned f_Wm_planned_b16 f_Wm_planned_b21
        rw [p_reqN n hn, sb, sm_i, h1, sb, sm_o, sb, sm_o, if_pos rfl, p_noNurse n hn, sb, if_pos rfl, h2, sb, if_neg (by decide), if_neg (by decide)]
        exact ⟨rfl, rfl⟩
      · exact .inr ⟨n, d, hn, hd, rfl, rfl⟩
  rcases fin with ⟨g1, g2⟩ | ⟨n, d, hn, hd, rfl, rfl⟩
  · rw [g1, sb, sb, sb, g2, sb, ei]
    unfold f_Wm_thrown
    rw [sb, if_pos rfl]
    dsimp only
    rw [if_neg (by decide)]
    exact ⟨_, _, _, r, rfl, ⟨D, lgN, sB, wB, ⟨rfl, rfl, rfl, rfl, rfl, rfl, rfl, rfl, rfl, rfl, rfl, rfl, rfl, rfl, rfl⟩, W, hP, hB, hPl, hnp⟩, by omega⟩
  · obtain ⟨v, h1, h2⟩ := ag_planned hD hn hd hPl
    have g1 : f_La_planned (mI n) (mI d) pl (mI D) q3 = some (0, vp_updL q3 0 v.toInt64) := by
      unfold f_La_planned
      rw [h1, sb, sm_i, q3_at, sb]
    rw [g1, sb, sb, sb, h2, sb, ei]
    unfold f_Wm_thrown
    rw [sb, if_pos rfl, if_pos rfl, q3_get, sb, if_pos rfl]
    exact ⟨_, _, _, r, rfl, ⟨D, lgN, sB, wB, ⟨rfl, rfl, rfl, rfl, rfl, rfl, rfl, rfl, rfl, rfl, rfl, rfl, rfl, rfl, rfl⟩, W, hP, hB, hPl, hnp⟩, by omega⟩
