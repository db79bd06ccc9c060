/-! days, lines, line, bound, check: the cases of the law -/
theorem k7 {fu L i r : Nat} {xs : Nat → Int32} {gx : GX} {gm : GM} {q3 : Nat → Int64} (hfu : 4096 < fu) (hi : i + 5 ≤ L) (hL : L < 2 ^ 31) (hr : r + 12 < 10000) (h : Rel gx gm r) : ∃ gx' gm' q3' r', f_La_c7 fu L xs (mI i) gx gm q3 = some (.inl (mI (i + 5), gx', gm', q3')) ∧ Rel gx' gm' r' ∧ r' ≤ r + 12 := by
  obtain ⟨pl, be, bk, dc, n0, f0, g0, t0, d0, sc0, pc0, fx0, n1, f1, g1, t1, d1, sc1, pc1, fx1, n2, f2, g2, t2, d2, sc2, pc2, fx2, nd, wk, wnk, ww, wnw, sa, ss, sk, snk, gl, rc, q, np⟩ := gx
  obtain ⟨th, days, rounds, bd, sol, least, isP, leg, pen, rep, fbA, lgA, bs, bw, ndM, co, pa, fi, qm, cn, best, plan, rest, af, we, cv, fd⟩ := gm
  unfold Rel RelP at h
  dsimp only at h
  obtain ⟨D, lgN, sB, wB, ⟨e1, e2, e3, e4, e5, e6, e7, e8, e9, e10, e11, e12, e13, e14, e15⟩, W, hP, hB, hPl, hnp⟩ := h
  subst e1 e2 e3 e4 e5 e6 e7 e8 e9 e10 e11 e12 e13 e14 e15
  have hD := W.hD
  have ei : mI i + 5 = mI (i + 5) := mI_add i 5
  unfold f_La_c7 f_Wr_days f_Wm_days
  dsimp only
  rw [sb, sb, if_pos rfl, ei]
  exact ⟨_, _, _, r, rfl, ⟨D, lgN, sB, wB, ⟨rfl, rfl, rfl, rfl, rfl, rfl, rfl, rfl, rfl, rfl, rfl, rfl, rfl, rfl, rfl⟩, W, hP, hB, hPl, hnp⟩, by omega⟩
theorem k8 {fu L i r : Nat} {xs : Nat → Int32} {gx : GX} {gm : GM} {q3 : Nat → Int64} (hfu : 4096 < fu) (hi : i + 5 ≤ L) (hL : L < 2 ^ 31) (hr : r + 12 < 10000) (h : Rel gx gm r) : ∃ gx' gm' q3' r', f_La_c8 fu L xs (mI i) gx gm q3 = some (.inl (mI (i + 5), gx', gm', q3')) ∧ Rel gx' gm' r' ∧ r' ≤ r + 12 := by
  obtain ⟨pl, be, bk, dc, n0, f0, g0, t0, d0, sc0, pc0, fx0, n1, f1, g1, t1, d1, sc1, pc1, fx1, n2, f2, g2, t2, d2, sc2, pc2, fx2, nd, wk, wnk, ww, wnw, sa, ss, sk, snk, gl, rc, q, np⟩ := gx
  obtain ⟨th, days, rounds, bd, sol, least, isP, leg, pen, rep, fbA, lgA, bs, bw, ndM, co, pa, fi, qm, cn, best, plan, rest, af, we, cv, fd⟩ := gm
  unfold Rel RelP at h
  dsimp only at h
  obtain ⟨D, lgN, sB, wB, ⟨e1, e2, e3, e4, e5, e6, e7, e8, e9, e10, e11, e12, e13, e14, e15⟩, W, hP, hB, hPl, hnp⟩ := h
  subst e1 e2 e3 e4 e5 e6 e7 e8 e9 e10 e11 e12 e13 e14 e15
  have hD := W.hD
  have ei : mI i + 5 = mI (i + 5) := mI_add i 5
  have x1 : gi L xs (mI i + 1) = some (xs (i + 1)) := arg_at (j := 1) (by omega) hL
  generalize xs (i + 1) = a1 at x1
  unfold f_La_c8
  dsimp only
  rw [x1, sb]
  rcases nurse_c a1 with ⟨h1, h2⟩ | ⟨n, hn, rfl⟩
  · have g1 : f_La_lines fu a1 (mI 0) f0 (mI (lgN 0)) (mI (so (sB 0) (wB 0))) (mI D) sc0 pc0 fx0 (mI 1) f1 (mI (lgN 1)) (mI (so (sB 1) (wB 1))) (mI D) sc1 pc1 fx1 (mI 2) f2 (mI (lgN 2)) (mI (so (sB 2) (wB 2))) (mI D) sc2 pc2 fx2 wk wnk ww wnw np q3 = some (1, wk, wnk, ww, wnw, q3) := by
      unfold f_La_lines f_Wr_lines
      rw [h1, sb, sm_o, sb, sm_o]
      dsimp only
      rw [if_pos rfl]
    have g2 : f_Wm_lines fu a1 (mI D) leg pen fbA lgA bs bw co pa fi = some (0, 1, leg, pen) := by
      unfold f_Wm_lines f_Wm_lines_b13
      rw [h2, sb, if_neg (by decide), if_neg (by decide)]
    rw [g1, sb, sb, g2, sb, ei]
    unfold f_Wm_thrown
    rw [sb, if_pos rfl]
    dsimp only
    rw [if_neg (by decide)]
    exact ⟨_, _, _, r, rfl, ⟨D, lgN, sB, wB, ⟨rfl, rfl, rfl, rfl, rfl, rfl, rfl, rfl, rfl, rfl, rfl, rfl, rfl, rfl, rfl⟩, W, hP, hB, hPl, hnp⟩, by omega⟩
  · obtain ⟨v, k', nk', w', nw', l1, p1, h1, h2⟩ := ag_lines (k := wk) (nk := wnk) (w := ww) (nw := wnw) (l0 := leg) (p0 := pen) hfu W hn hnp
    have h1 : f_Wr_lines fu (mI n) (mI 0) f0 (mI (lgN 0)) (mI (so (sB 0) (wB 0))) (mI D) sc0 pc0 fx0 (mI 1) f1 (mI (lgN 1)) (mI (so (sB 1) (wB 1))) (mI D) sc1 pc1 fx1 (mI 2) f2 (mI (lgN 2)) (mI (so (sB 2) (wB 2))) (mI D) sc2 pc2 fx2 wk wnk ww wnw np = _ := h1
    have g1 : f_La_lines fu (mI n) (mI 0) f0 (mI (lgN 0)) (mI (so (sB 0) (wB 0))) (mI D) sc0 pc0 fx0 (mI 1) f1 (mI (lgN 1)) (mI (so (sB 1) (wB 1))) (mI D) sc1 pc1 fx1 (mI 2) f2 (mI (lgN 2)) (mI (so (sB 2) (wB 2))) (mI D) sc2 pc2 fx2 wk wnk ww wnw np q3 = some (0, k', nk', w', nw', vp_updL q3 0 v.toInt64) := by
      unfold f_La_lines
      rw [h1, sb, sm_i]
      dsimp only
      rw [q3_at, sb]
    rw [g1, sb, sb, h2, sb, ei]
    unfold f_Wm_thrown
    rw [sb, if_pos rfl, if_pos rfl, q3_get, sb, if_pos rfl]
    exact ⟨_, _, _, r, rfl, ⟨D, lgN, sB, wB, ⟨rfl, rfl, rfl, rfl, rfl, rfl, rfl, rfl, rfl, rfl, rfl, rfl, rfl, rfl, rfl⟩, W, hP, hB, hPl, hnp⟩, by omega⟩
theorem k9 {fu L i r : Nat} {xs : Nat → Int32} {gx : GX} {gm : GM} {q3 : Nat → Int64} (hfu : 4096 < fu) (hi : i + 5 ≤ L) (hL : L < 2 ^ 31) (hr : r + 12 < 10000) (h : Rel gx gm r) : ∃ gx' gm' q3' r', f_La_c9 fu L xs (mI i) gx gm q3 = some (.inl (mI (i + 5), gx', gm', q3')) ∧ Rel gx' gm' r' ∧ r' ≤ r + 12 := by
  obtain ⟨pl, be, bk, dc, n0, f0, g0, t0, d0, sc0, pc0, fx0, n1, f1, g1, t1, d1, sc1, pc1, fx1, n2, f2, g2, t2, d2, sc2, pc2, fx2, nd, wk, wnk, ww, wnw, sa, ss, sk, snk, gl, rc, q, np⟩ := gx
  obtain ⟨th, days, rounds, bd, sol, least, isP, leg, pen, rep, fbA, lgA, bs, bw, ndM, co, pa, fi, qm, cn, best, plan, rest, af, we, cv, fd⟩ := gm
  unfold Rel RelP at h
  dsimp only at h
  obtain ⟨D, lgN, sB, wB, ⟨e1, e2, e3, e4, e5, e6, e7, e8, e9, e10, e11, e12, e13, e14, e15⟩, W, hP, hB, hPl, hnp⟩ := h
  subst e1 e2 e3 e4 e5 e6 e7 e8 e9 e10 e11 e12 e13 e14 e15
  have hD := W.hD
  have ei : mI i + 5 = mI (i + 5) := mI_add i 5
  have x1 : gi L xs (mI i + 1) = some (xs (i + 1)) := arg_at (j := 1) (by omega) hL
  generalize xs (i + 1) = a1 at x1
  unfold f_La_c9
  dsimp only
  rw [x1, sb]
  rcases nurse_c a1 with ⟨h1, h2⟩ | ⟨n, hn, rfl⟩
  · have g1 : f_La_line fu a1 (mI 0) f0 (mI (lgN 0)) (mI (so (sB 0) (wB 0))) (mI D) sc0 pc0 fx0 (mI 1) f1 (mI (lgN 1)) (mI (so (sB 1) (wB 1))) (mI D) sc1 pc1 fx1 (mI 2) f2 (mI (lgN 2)) (mI (so (sB 2) (wB 2))) (mI D) sc2 pc2 fx2 wk wnk ww wnw np q3 = some (1, wk, wnk, ww, wnw, q3) := by
      unfold f_La_line f_Wr_line
      rw [h1, sb, sm_o, sb, sm_o]
      dsimp only
      rw [if_pos rfl]
    have g2 : f_Wm_line fu a1 (mI D) leg pen fbA lgA bs bw co pa fi = some (0, 1, leg, pen) := by
      unfold f_Wm_line f_Wm_line_b13
      rw [h2, sb, if_neg (by decide), if_neg (by decide)]
    rw [g1, sb, sb, g2, sb, ei]
    unfold f_Wm_thrown
    rw [sb, if_pos rfl]
    dsimp only
    rw [if_neg (by decide)]
    exact ⟨_, _, _, r, rfl, ⟨D, lgN, sB, wB, ⟨rfl, rfl, rfl, rfl, rfl, rfl, rfl, rfl, rfl, rfl, rfl, rfl, rfl, rfl, rfl⟩, W, hP, hB, hPl, hnp⟩, by omega⟩
  · obtain ⟨v, k', nk', w', nw', l1, p1, h1, h2⟩ := ag_line1 (k := wk) (nk := wnk) (w := ww) (nw := wnw) (l0 := leg) (p0 := pen) hfu W hn hnp
    have h1 : f_Wr_line fu (mI n) (mI 0) f0 (mI (lgN 0)) (mI (so (sB 0) (wB 0))) (mI D) sc0 pc0 fx0 (mI 1) f1 (mI (lgN 1)) (mI (so (sB 1) (wB 1))) (mI D) sc1 pc1 fx1 (mI 2) f2 (mI (lgN 2)) (mI (so (sB 2) (wB 2))) (mI D) sc2 pc2 fx2 wk wnk ww wnw np = _ := h1
    have g1 : f_La_line fu (mI n) (mI 0) f0 (mI (lgN 0)) (mI (so (sB 0) (wB 0))) (mI D) sc0 pc0 fx0 (mI 1) f1 (mI (lgN 1)) (mI (so (sB 1) (wB 1))) (mI D) sc1 pc1 fx1 (mI 2) f2 (mI (lgN 2)) (mI (so (sB 2) (wB 2))) (mI D) sc2 pc2 fx2 wk wnk ww wnw np q3 = some (0, k', nk', w', nw', vp_updL q3 0 v.toInt64) := by
      unfold f_La_line
      rw [h1, sb, sm_i]
      dsimp only
      rw [q3_at, sb]
    rw [g1, sb, sb, h2, sb, ei]
    unfold f_Wm_thrown
    rw [sb, if_pos rfl, if_pos rfl, q3_get, sb, if_pos rfl]
    exact ⟨_, _, _, r, rfl, ⟨D, lgN, sB, wB, ⟨rfl, rfl, rfl, rfl, rfl, rfl, rfl, rfl, rfl, rfl, rfl, rfl, rfl, rfl, rfl⟩, W, hP, hB, hPl, hnp⟩, by omega⟩
theorem k13 {fu L i r : Nat} {xs : Nat → Int32} {gx : GX} {gm : GM} {q3 : Nat → Int64} (hfu : 4096 < fu) (hi : i + 5 ≤ L) (hL : L < 2 ^ 31) (hr : r + 12 < 10000) (h : Rel gx gm r) : ∃ gx' gm' q3' r', f_La_c13 fu L xs (mI i) gx gm q3 = some (.inl (mI (i + 5), gx', gm', q3')) ∧ Rel gx' gm' r' ∧ r' ≤ r + 12 := by
  obtain ⟨pl, be, bk, dc, n0, f0, g0, t0, d0, sc0, pc0, fx0, n1, f1, g1, t1, d1, sc1, pc1, fx1, n2, f2, g2, t2, d2, sc2, pc2, fx2, nd, wk, wnk, ww, wnw, sa, ss, sk, snk, gl, rc, q, np⟩ := gx
  obtain ⟨th, days, rounds, bd, sol, least, isP, leg, pen, rep, fbA, lgA, bs, bw, ndM, co, pa, fi, qm, cn, best, plan, rest, af, we, cv, fd⟩ := gm
  unfold Rel RelP at h
  dsimp only at h
  obtain ⟨D, lgN, sB, wB, ⟨e1, e2, e3, e4, e5, e6, e7, e8, e9, e10, e11, e12, e13, e14, e15⟩, W, hP, hB, hPl, hnp⟩ := h
  subst e1 e2 e3 e4 e5 e6 e7 e8 e9 e10 e11 e12 e13 e14 e15
  have hD := W.hD
  have ei : mI i + 5 = mI (i + 5) := mI_add i 5
  unfold f_La_c13
  dsimp only
  obtain ⟨h1, h2⟩ := ag_bound (by omega : r < 10000) hP
  rw [h1, sb, h2, sb, if_pos rfl, ei]
  exact ⟨_, _, _, r, rfl, ⟨D, lgN, sB, wB, ⟨rfl, rfl, rfl, rfl, rfl, rfl, rfl, rfl, rfl, rfl, rfl, rfl, rfl, rfl, rfl⟩, W, hP, hB, hPl, hnp⟩, by omega⟩
theorem k18 {fu L i r : Nat} {xs : Nat → Int32} {gx : GX} {gm : GM} {q3 : Nat → Int64} (hfu : 4096 < fu) (hi : i + 5 ≤ L) (hL : L < 2 ^ 31) (hr : r + 12 < 10000) (h : Rel gx gm r) : ∃ gx' gm' q3' r', f_La_c18 fu L xs (mI i) gx gm q3 = some (.inl (mI (i + 5), gx', gm', q3')) ∧ Rel gx' gm' r' ∧ r' ≤ r + 12 := by
  obtain ⟨pl, be, bk, dc, n0, f0, g0, t0, d0, sc0, pc0, fx0, n1, f1, g1, t1, d1, sc1, pc1, fx1, n2, f2, g2, t2, d2, sc2, pc2, fx2, nd, wk, wnk, ww, wnw, sa, ss, sk, snk, gl, rc, q, np⟩ := gx
  obtain ⟨th, days, rounds, bd, sol, least, isP, leg, pen, rep, fbA, lgA, bs, bw, ndM, co, pa, fi, qm, cn, best, plan, rest, af, we, cv, fd⟩ := gm
  unfold Rel RelP at h
  dsimp only at h
  obtain ⟨D, lgN, sB, wB, ⟨e1, e2, e3, e4, e5, e6, e7, e8, e9, e10, e11, e12, e13, e14, e15⟩, W, hP, hB, hPl, hnp⟩ := h
  subst e1 e2 e3 e4 e5 e6 e7 e8 e9 e10 e11 e12 e13 e14 e15
  have hD := W.hD
  have ei : mI i + 5 = mI (i + 5) := mI_add i 5
  unfold f_La_c18
  dsimp only
  obtain ⟨v, l1, p1, h1, h2⟩ := ag_check (l0 := leg) (p0 := pen) hfu W hPl
  have h1 : f_Wr_check fu pl (mI D) (mI 0) f0 (mI (lgN 0)) (mI (so (sB 0) (wB 0))) (mI D) fx0 (mI 1) f1 (mI (lgN 1)) (mI (so (sB 1) (wB 1))) (mI D) fx1 (mI 2) f2 (mI (lgN 2)) (mI (so (sB 2) (wB 2))) (mI D) fx2 nd = _ := h1
  rw [h1, sb, h2, sb, if_pos rfl, ei]
  exact ⟨_, _, _, r, rfl, ⟨D, lgN, sB, wB, ⟨rfl, rfl, rfl, rfl, rfl, rfl, rfl, rfl, rfl, rfl, rfl, rfl, rfl, rfl, rfl⟩, W, hP, hB, hPl, hnp⟩, by omega⟩
