/-! least, best, raise, price: the cases of the law -/
theorem k10 {fu L i r : Nat} {xs : Nat → Int32} {gx : GX} {gm : GM} {q3 : Nat → Int64} (hfu : 4096 < fu) (hi : i + 5 ≤ L) (hL : L < 2 ^ 31) (hr : r + 12 < 10000) (h : Rel gx gm r) : ∃ gx' gm' q3' r', f_La_c10 fu L xs (mI i) gx gm q3 = some (.inl (mI (i + 5), gx', gm', q3')) ∧ Rel gx' gm' r' ∧ r' ≤ r + 12 := by
  obtain ⟨pl, be, bk, dc, n0, f0, g0, t0, d0, sc0, pc0, fx0, n1, f1, g1, t1, d1, sc1, pc1, fx1, n2, f2, g2, t2, d2, sc2, pc2, fx2, nd, wk, wnk, ww, wnw, sa, ss, sk, snk, gl, rc, q, np⟩ := gx
  obtain ⟨th, days, rounds, bd, sol, least, isP, leg, pen, rep, fbA, lgA, bs, bw, ndM, co, pa, fi, qm, cn, best, plan, rest, af, we, cv, fd⟩ := gm
  unfold Rel RelP at h
  dsimp only at h
  obtain ⟨D, lgN, sB, wB, ⟨e1, e2, e3, e4, e5, e6, e7, e8, e9, e10, e11, e12, e13, e14, e15⟩, W, hP, hB, hPl, hnp⟩ := h
  subst e1 e2 e3 e4 e5 e6 e7 e8 e9 e10 e11 e12 e13 e14 e15
  have hD := W.hD
  have ei : mI i + 5 = mI (i + 5) := mI_add i 5
  unfold f_La_c10
  dsimp only
  obtain ⟨v, z, sa', ss', k', nk', V, rep', best', rest', af', we', cv', fd', h1, h2, h3⟩ := ag_least (sa := sa) (ss := ss) (k := sk) (nk := snk) (plan := plan) (rest := rest) (af := af) (we := we) (cv := cv) (fd := fd) (rep := rep) hfu W hB
  have h1 : f_Wr_least fu be bk (mI D) (mI 0) f0 (mI (lgN 0)) (mI (so (sB 0) (wB 0))) (mI D) sc0 pc0 fx0 (mI 1) f1 (mI (lgN 1)) (mI (so (sB 1) (wB 1))) (mI D) sc1 pc1 fx1 (mI 2) f2 (mI (lgN 2)) (mI (so (sB 2) (wB 2))) (mI D) sc2 pc2 fx2 nd sa ss sk snk = _ := h1
  rw [h1, sb, h2, sb, if_pos rfl, ei]
  exact ⟨_, _, _, r, rfl, ⟨D, lgN, sB, wB, ⟨rfl, rfl, rfl, rfl, rfl, rfl, rfl, rfl, rfl, rfl, rfl, rfl, rfl, rfl, rfl⟩, W, hP, .inr ⟨rfl, rfl, z, V, rfl, rfl, h3⟩, hPl, hnp⟩, by omega⟩
theorem k11 {fu L i r : Nat} {xs : Nat → Int32} {gx : GX} {gm : GM} {q3 : Nat → Int64} (hfu : 4096 < fu) (hi : i + 5 ≤ L) (hL : L < 2 ^ 31) (hr : r + 12 < 10000) (h : Rel gx gm r) : ∃ gx' gm' q3' r', f_La_c11 fu L xs (mI i) gx gm q3 = some (.inl (mI (i + 5), gx', gm', q3')) ∧ Rel gx' gm' r' ∧ r' ≤ r + 12 := by
  obtain ⟨pl, be, bk, dc, n0, f0, g0, t0, d0, sc0, pc0, fx0, n1, f1, g1, t1, d1, sc1, pc1, fx1, n2, f2, g2, t2, d2, sc2, pc2, fx2, nd, wk, wnk, ww, wnw, sa, ss, sk, snk, gl, rc, q, np⟩ := gx
  obtain ⟨th, days, rounds, bd, sol, least, isP, leg, pen, rep, fbA, lgA, bs, bw, ndM, co, pa, fi, qm, cn, best, plan, rest, af, we, cv, fd⟩ := gm
  unfold Rel RelP at h
  dsimp only at h
  obtain ⟨D, lgN, sB, wB, ⟨e1, e2, e3, e4, e5, e6, e7, e8, e9, e10, e11, e12, e13, e14, e15⟩, W, hP, hB, hPl, hnp⟩ := h
  subst e1 e2 e3 e4 e5 e6 e7 e8 e9 e10 e11 e12 e13 e14 e15
  have hD := W.hD
  have ei : mI i + 5 = mI (i + 5) := mI_add i 5
  have x1 : gi L xs (mI i + 1) = some (xs (i + 1)) := arg_at (j := 1) (by omega) hL
  generalize xs (i + 1) = a1 at x1
  have x2 : gi L xs (mI i + 2) = some (xs (i + 2)) := arg_at (j := 2) (by omega) hL
  generalize xs (i + 2) = a2 at x2
  unfold f_La_c11
  dsimp only
  rw [x1, sb, x2, sb]
  have bad : (f_Wr_requireNurse a1 = some (.inr 1) ∧ f_Wm_noNurse a1 = some 1) ∨ ((∃ n, n < 3 ∧ a1 = mI n) ∧ f_Wr_requireDay a2 (mI D) = some (.inr 1) ∧ f_Wm_noDay a2 (mI D) = some 1) → f_La_best fu a1 a2 be bk (mI D) (mI 0) f0 (mI (lgN 0)) (mI (so (sB 0) (wB 0))) (mI D) sc0 pc0 fx0 (mI 1) f1 (mI (lgN 1)) (mI (so (sB 1) (wB 1))) (mI D) sc1 pc1 fx1 (mI 2) f2 (mI (lgN 2)) (mI (so (sB 2) (wB 2))) (mI D) sc2 pc2 fx2 nd sa ss sk snk q3 = some (1, be, bk, sa, ss, sk, snk, q3) ∧ f_Wm_best fu a1 a2 (mI D) sol least rep fbA lgA bs bw ndM co pa fi best plan rest af we cv fd = some (0, 1, sol, least, rep, best, rest, af, we, cv, fd) := by
    intro h
    unfold f_La_best f_Wr_best f_Wm_best f_Wm_best_b16 f_Wm_best_b21
    rcases h with ⟨h1, h2⟩ | ⟨⟨n, hn, rfl⟩, h1, h2⟩
    · constructor
      · rw [h1, sb, sm_o, sb, sm_o]
        dsimp only
        rw [if_pos rfl]
      · rw [h2, sb, if_neg (by decide), if_neg (by decide)]
    · constructor
      · rw [p_reqN n hn, sb, sm_i, h1, sb, sm_o, sb, sm_o]
        dsimp only
        rw [if_pos rfl]
      · rw [p_noNurse n hn, sb, if_pos rfl, h2, sb, if_neg (by decide), if_neg (by decide)]
  have fin : f_La_best fu a1 a2 be bk (mI D) (mI 0) f0 (mI (lgN 0)) (mI (so (sB 0) (wB 0))) (mI D) sc0 pc0 fx0 (mI 1) f1 (mI (lgN 1)) (mI (so (sB 1) (wB 1))) (mI D) sc1 pc1 fx1 (mI 2) f2 (mI (lgN 2)) (mI (so (sB 2) (wB 2))) (mI D) sc2 pc2 fx2 nd sa ss sk snk q3 = some (1, be, bk, sa, ss, sk, snk, q3) ∧ f_Wm_best fu a1 a2 (mI D) sol least rep fbA lgA bs bw ndM co pa fi best plan rest af we cv fd = some (0, 1, sol, least, rep, best, rest, af, we, cv, fd) ∨ ∃ n d, n < 3 ∧ d < D ∧ a1 = mI n ∧ a2 = mI d := by
    rcases nurse_c a1 with h | ⟨n, hn, rfl⟩
    · exact .inl (bad (.inl h))
    · rcases day_c a2 hD with h | ⟨d, hd, rfl⟩
      · exact .inl (bad (.inr ⟨⟨n, hn, rfl⟩, h⟩))
      · exact .inr ⟨n, d, hn, hd, rfl, rfl⟩
  rcases fin with ⟨g1, g2⟩ | ⟨n, d, hn, hd, rfl, rfl⟩
  · rw [g1, sb, sb, sb, g2, sb, ei]
    unfold f_Wm_thrown
    rw [sb, if_pos rfl]
    dsimp only
    rw [if_neg (by decide)]
    exact ⟨_, _, _, r, rfl, ⟨D, lgN, sB, wB, ⟨rfl, rfl, rfl, rfl, rfl, rfl, rfl, rfl, rfl, rfl, rfl, rfl, rfl, rfl, rfl⟩, W, hP, hB, hPl, hnp⟩, by omega⟩
  · obtain ⟨z, sa', ss', k', nk', V, rep', best', rest', af', we', cv', fd', h3, h⟩ := ag_best1 (sa := sa) (ss := ss) (k := sk) (nk := snk) (plan := plan) (rest := rest) (af := af) (we := we) (cv := cv) (fd := fd) (rep := rep) hfu W hn hd hB
    rcases h with ⟨h1, h2⟩ | ⟨v, h1, h2⟩
    · have h1 : f_Wr_best fu (mI n) (mI d) be bk (mI D) (mI 0) f0 (mI (lgN 0)) (mI (so (sB 0) (wB 0))) (mI D) sc0 pc0 fx0 (mI 1) f1 (mI (lgN 1)) (mI (so (sB 1) (wB 1))) (mI D) sc1 pc1 fx1 (mI 2) f2 (mI (lgN 2)) (mI (so (sB 2) (wB 2))) (mI D) sc2 pc2 fx2 nd sa ss sk snk = _ := h1
      have g1 : f_La_best fu (mI n) (mI d) be bk (mI D) (mI 0) f0 (mI (lgN 0)) (mI (so (sB 0) (wB 0))) (mI D) sc0 pc0 fx0 (mI 1) f1 (mI (lgN 1)) (mI (so (sB 1) (wB 1))) (mI D) sc1 pc1 fx1 (mI 2) f2 (mI (lgN 2)) (mI (so (sB 2) (wB 2))) (mI D) sc2 pc2 fx2 nd sa ss sk snk q3 = some (2, jJ z, 1, sa', ss', k', nk', q3) := by
        unfold f_La_best
        rw [h1, sb, sm_o]
        dsimp only
        rw [if_neg (by decide), if_pos rfl]
      rw [g1, sb, sb, sb, h2, sb, ei]
      unfold f_Wm_thrown
      rw [sb, if_pos rfl]
      dsimp only
      rw [if_neg (by decide)]
      exact ⟨_, _, _, r, rfl, ⟨D, lgN, sB, wB, ⟨rfl, rfl, rfl, rfl, rfl, rfl, rfl, rfl, rfl, rfl, rfl, rfl, rfl, rfl, rfl⟩, W, hP, .inr ⟨rfl, rfl, z, V, rfl, rfl, h3⟩, hPl, hnp⟩, by omega⟩
    · have h1 : f_Wr_best fu (mI n) (mI d) be bk (mI D) (mI 0) f0 (mI (lgN 0)) (mI (so (sB 0) (wB 0))) (mI D) sc0 pc0 fx0 (mI 1) f1 (mI (lgN 1)) (mI (so (sB 1) (wB 1))) (mI D) sc1 pc1 fx1 (mI 2) f2 (mI (lgN 2)) (mI (so (sB 2) (wB 2))) (mI D) sc2 pc2 fx2 nd sa ss sk snk = _ := h1
      have g1 : f_La_best fu (mI n) (mI d) be bk (mI D) (mI 0) f0 (mI (lgN 0)) (mI (so (sB 0) (wB 0))) (mI D) sc0 pc0 fx0 (mI 1) f1 (mI (lgN 1)) (mI (so (sB 1) (wB 1))) (mI D) sc1 pc1 fx1 (mI 2) f2 (mI (lgN 2)) (mI (so (sB 2) (wB 2))) (mI D) sc2 pc2 fx2 nd sa ss sk snk q3 = some (0, jJ z, 1, sa', ss', k', nk', vp_updL q3 0 v.toInt64) := by
        unfold f_La_best
        rw [h1, sb, sm_i]
        dsimp only
        rw [q3_at, sb]
      rw [g1, sb, sb, sb, h2, sb, ei]
      unfold f_Wm_thrown
      rw [sb, if_pos rfl, if_pos rfl, q3_get, sb, if_pos rfl]
      exact ⟨_, _, _, r, rfl, ⟨D, lgN, sB, wB, ⟨rfl, rfl, rfl, rfl, rfl, rfl, rfl, rfl, rfl, rfl, rfl, rfl, rfl, rfl, rfl⟩, W, hP, .inr ⟨rfl, rfl, z, V, rfl, rfl, h3⟩, hPl, hnp⟩, by omega⟩
theorem k12 {fu L i r : Nat} {xs : Nat → Int32} {gx : GX} {gm : GM} {q3 : Nat → Int64} (hfu : 4096 < fu) (hi : i + 5 ≤ L) (hL : L < 2 ^ 31) (hr : r + 12 < 10000) (h : Rel gx gm r) : ∃ gx' gm' q3' r', f_La_c12 fu L xs (mI i) gx gm q3 = some (.inl (mI (i + 5), gx', gm', q3')) ∧ Rel gx' gm' r' ∧ r' ≤ r + 12 := by
  obtain ⟨pl, be, bk, dc, n0, f0, g0, t0, d0, sc0, pc0, fx0, n1, f1, g1, t1, d1, sc1, pc1, fx1, n2, f2, g2, t2, d2, sc2, pc2, fx2, nd, wk, wnk, ww, wnw, sa, ss, sk, snk, gl, rc, q, np⟩ := gx
  obtain ⟨th, days, rounds, bd, sol, least, isP, leg, pen, rep, fbA, lgA, bs, bw, ndM, co, pa, fi, qm, cn, best, plan, rest, af, we, cv, fd⟩ := gm
  unfold Rel RelP at h
  dsimp only at h
  obtain ⟨D, lgN, sB, wB, ⟨e1, e2, e3, e4, e5, e6, e7, e8, e9, e10, e11, e12, e13, e14, e15⟩, W, hP, hB, hPl, hnp⟩ := h
  subst e1 e2 e3 e4 e5 e6 e7 e8 e9 e10 e11 e12 e13 e14 e15
  have hD := W.hD
  have ei : mI i + 5 = mI (i + 5) := mI_add i 5
  have x1 : gi L xs (mI i + 1) = some (xs (i + 1)) := arg_at (j := 1) (by omega) hL
  generalize xs (i + 1) = a1 at x1
  unfold f_La_c12
  dsimp only
  rw [x1, sb]
  have c0 : (a1 < 1) ↔ a1.toInt < 1 := lt_i (a := 1) (by omega) (by omega)
  have c6 : (a1 ≤ 12) ↔ a1.toInt ≤ 12 := le_i (a := 12) (by omega) (by omega)
  rcases val_c a1 (lo := 1) (hi := 12) (by omega) (by omega) (by omega) (by omega) with ⟨v1, v2⟩ | ⟨v1, v2, v3⟩
  · have v1 : f_Wr_requireValue a1 1 12 = _ := v1
    have g1 : f_La_raise fu a1 (mI D) (mI 0) f0 (mI (lgN 0)) (mI (so (sB 0) (wB 0))) (mI D) sc0 pc0 fx0 (mI 1) f1 (mI (lgN 1)) (mI (so (sB 1) (wB 1))) (mI D) sc1 pc1 fx1 (mI 2) f2 (mI (lgN 2)) (mI (so (sB 2) (wB 2))) (mI D) sc2 pc2 fx2 nd wk wnk ww wnw gl rc q np q3 = some (1, wk, wnk, ww, wnw, gl, rc, q, q3) := by
      unfold f_La_raise f_Wr_raise
      rw [v1, sb, sm_o, sb, sm_o]
      dsimp only
      rw [if_pos rfl]
    have g2 : f_Wm_raise fu a1 (mI D) (mI r) bd leg pen fbA lgA bs bw ndM co pa fi qm cn = some (0, 1, mI r, bd, leg, pen, qm, cn) := by
      have hb : ∀ {α : Type} {x y : α}, (if a1 < 1 then x else if a1 ≤ 12 then y else x) = x := by
        intro α x y
        rcases v2 with v2 | v2
        · rw [if_pos (c0.2 v2)]
        · rw [if_neg (fun q => absurd (c0.1 q) (by omega)), if_neg (fun q => absurd (c6.1 q) (by omega))]
      unfold f_Wm_raise
      rw [hb]
      unfold f_Wm_raise_b12 f_Wm_raise_b17
      have hit : iter (f_Wm_raise_l22 fu (mI D) fbA lgA bs bw co pa fi qm) fu (mI 0, 1, leg, pen) = some (mI 0, 1, leg, pen) := by
        obtain ⟨n, rfl⟩ : ∃ n, fu = n + 1 := ⟨fu - 1, by omega⟩
        show ((f_Wm_raise_l22 (n + 1) (mI D) fbA lgA bs bw co pa fi qm (mI 0, 1, leg, pen)).bind _) = _
        have : f_Wm_raise_l22 (n + 1) (mI D) fbA lgA bs bw co pa fi qm (mI 0, 1, leg, pen) = some (.inr (mI 0, 1, leg, pen)) := by
          unfold f_Wm_raise_l22
          dsimp only
          rw [if_neg (by decide), if_neg (by decide)]
        rw [this]; rfl
      show (iter _ fu (mI 0, 1, leg, pen)).bind _ = _
      rw [hit, sb]
      unfold f_Wm_raise_b57
      dsimp only
      rw [if_neg (by decide)]
    rw [g1, sb, sb, g2, sb, ei]
    unfold f_Wm_thrown
    rw [sb, if_pos rfl]
    dsimp only
    rw [if_neg (by decide)]
    exact ⟨_, _, _, r, rfl, ⟨D, lgN, sB, wB, ⟨rfl, rfl, rfl, rfl, rfl, rfl, rfl, rfl, rfl, rfl, rfl, rfl, rfl, rfl, rfl⟩, W, hP, hB, hPl, hnp⟩, by omega⟩
  · have ha : a1 = mI a1.toInt.toNat := i_nat (by omega)
    have hm1 : 1 ≤ a1.toInt.toNat ∧ a1.toInt.toNat ≤ 12 := by omega
    generalize a1.toInt.toNat = m at ha hm1
    subst ha
    rcases ag_raise (k := wk) (nk := wnk) (w := ww) (nw := wnw) (l0 := leg) (p0 := pen) (cn := cn) hfu hr W hP hnp hm1.1 hm1.2 with ⟨k', nk', w', nw', l1, p1, h1, h2⟩ | ⟨v, k', nk', w', nw', gl', rc', q', bd', l1, p1, qm', cn', h1, h2, h3⟩
    · have h1 : f_Wr_raise fu (mI m) (mI D) (mI 0) f0 (mI (lgN 0)) (mI (so (sB 0) (wB 0))) (mI D) sc0 pc0 fx0 (mI 1) f1 (mI (lgN 1)) (mI (so (sB 1) (wB 1))) (mI D) sc1 pc1 fx1 (mI 2) f2 (mI (lgN 2)) (mI (so (sB 2) (wB 2))) (mI D) sc2 pc2 fx2 nd wk wnk ww wnw gl rc q np = _ := h1
      have g1 : f_La_raise fu (mI m) (mI D) (mI 0) f0 (mI (lgN 0)) (mI (so (sB 0) (wB 0))) (mI D) sc0 pc0 fx0 (mI 1) f1 (mI (lgN 1)) (mI (so (sB 1) (wB 1))) (mI D) sc1 pc1 fx1 (mI 2) f2 (mI (lgN 2)) (mI (so (sB 2) (wB 2))) (mI D) sc2 pc2 fx2 nd wk wnk ww wnw gl rc q np q3 = some (2, k', nk', w', nw', gl, rc, q, q3) := by
        unfold f_La_raise
        rw [h1, sb, sm_o]
        dsimp only
        rw [if_neg (by decide), if_pos rfl]
      rw [g1, sb, sb, h2, sb, ei]
      unfold f_Wm_thrown
      rw [sb, if_pos rfl]
      dsimp only
      rw [if_neg (by decide)]
      exact ⟨_, _, _, r, rfl, ⟨D, lgN, sB, wB, ⟨rfl, rfl, rfl, rfl, rfl, rfl, rfl, rfl, rfl, rfl, rfl, rfl, rfl, rfl, rfl⟩, W, hP, hB, hPl, hnp⟩, by omega⟩
    · have h1 : f_Wr_raise fu (mI m) (mI D) (mI 0) f0 (mI (lgN 0)) (mI (so (sB 0) (wB 0))) (mI D) sc0 pc0 fx0 (mI 1) f1 (mI (lgN 1)) (mI (so (sB 1) (wB 1))) (mI D) sc1 pc1 fx1 (mI 2) f2 (mI (lgN 2)) (mI (so (sB 2) (wB 2))) (mI D) sc2 pc2 fx2 nd wk wnk ww wnw gl rc q np = _ := h1
      have g1 : f_La_raise fu (mI m) (mI D) (mI 0) f0 (mI (lgN 0)) (mI (so (sB 0) (wB 0))) (mI D) sc0 pc0 fx0 (mI 1) f1 (mI (lgN 1)) (mI (so (sB 1) (wB 1))) (mI D) sc1 pc1 fx1 (mI 2) f2 (mI (lgN 2)) (mI (so (sB 2) (wB 2))) (mI D) sc2 pc2 fx2 nd wk wnk ww wnw gl rc q np q3 = some (0, k', nk', w', nw', gl', rc', q', vp_updL q3 0 v.toInt64) := by
        unfold f_La_raise
        rw [h1, sb, sm_i]
        dsimp only
        rw [q3_at, sb]
      rw [g1, sb, sb, h2, sb, ei]
      unfold f_Wm_thrown
      rw [sb, if_pos rfl, if_pos rfl, q3_get, sb, if_pos rfl]
      exact ⟨_, _, _, r + m, rfl, ⟨D, lgN, sB, wB, ⟨rfl, rfl, rfl, rfl, rfl, rfl, rfl, rfl, rfl, rfl, rfl, rfl, rfl, rfl, rfl⟩, W, h3, hB, hPl, hnp⟩, by omega⟩
theorem k14 {fu L i r : Nat} {xs : Nat → Int32} {gx : GX} {gm : GM} {q3 : Nat → Int64} (hfu : 4096 < fu) (hi : i + 5 ≤ L) (hL : L < 2 ^ 31) (hr : r + 12 < 10000) (h : Rel gx gm r) : ∃ gx' gm' q3' r', f_La_c14 fu L xs (mI i) gx gm q3 = some (.inl (mI (i + 5), gx', gm', q3')) ∧ Rel gx' gm' r' ∧ r' ≤ r + 12 := by
  obtain ⟨pl, be, bk, dc, n0, f0, g0, t0, d0, sc0, pc0, fx0, n1, f1, g1, t1, d1, sc1, pc1, fx1, n2, f2, g2, t2, d2, sc2, pc2, fx2, nd, wk, wnk, ww, wnw, sa, ss, sk, snk, gl, rc, q, np⟩ := gx
  obtain ⟨th, days, rounds, bd, sol, least, isP, leg, pen, rep, fbA, lgA, bs, bw, ndM, co, pa, fi, qm, cn, best, plan, rest, af, we, cv, fd⟩ := gm
  unfold Rel RelP at h
  dsimp only at h
  obtain ⟨D, lgN, sB, wB, ⟨e1, e2, e3, e4, e5, e6, e7, e8, e9, e10, e11, e12, e13, e14, e15⟩, W, hP, hB, hPl, hnp⟩ := h
  subst e1 e2 e3 e4 e5 e6 e7 e8 e9 e10 e11 e12 e13 e14 e15
  have hD := W.hD
  have ei : mI i + 5 = mI (i + 5) := mI_add i 5
  have x1 : gi L xs (mI i + 1) = some (xs (i + 1)) := arg_at (j := 1) (by omega) hL
  generalize xs (i + 1) = a1 at x1
  have x2 : gi L xs (mI i + 2) = some (xs (i + 2)) := arg_at (j := 2) (by omega) hL
  generalize xs (i + 2) = a2 at x2
  unfold f_La_c14
  dsimp only
  rw [x1, sb, x2, sb]
  have b1 : (a2 < 1) ↔ a2.toInt < 1 := lt_i (a := 1) (by omega) (by omega)
  have b4 : (a2 < 4) ↔ a2.toInt < 4 := lt_i (a := 4) (by omega) (by omega)
  have b3 : (a2 ≤ 3) ↔ a2.toInt ≤ 3 := le_i (a := 3) (by omega) (by omega)
  have fin : (f_La_price a1 a2 (mI D) q q3 = some (1, q3) ∧ f_Wm_price a1 a2 (mI D) qm = some (0, 1)) ∨ ∃ d s, d < D ∧ 1 ≤ s ∧ s < 4 ∧ a1 = mI d ∧ a2 = mI s := by
    rcases day_c a1 hD with ⟨h1, h2⟩ | ⟨d, hd, rfl⟩
    · left
      unfold f_La_price f_Wr_price f_Wm_price f_Wm_price_b19 f_Wm_price_b24
      rw [h1, sb, sm_o, sb, sm_o, if_pos rfl, h2, sb, if_neg (by decide), if_neg (by decide)]
      exact ⟨rfl, rfl⟩
    · by_cases h1 : a2.toInt < 1
      · left
        unfold f_La_price f_Wr_price f_Wm_price f_Wm_price_b19 f_Wm_price_b24 f_Wr_requireShift f_Wr_requireShift_b10
        rw [p_reqD hD hd, sb, sm_i, if_pos (b1.2 h1), sb, sm_o, sb, sm_o, if_pos rfl, p_noD hD hd, sb, if_pos rfl, if_pos (b1.2 h1), if_neg (by decide)]
        exact ⟨rfl, rfl⟩
      · by_cases h4 : a2.toInt < 4
        · right
          exact ⟨d, a2.toInt.toNat, hd, by omega, by omega, rfl, i_nat (by omega)⟩
        · left
          unfold f_La_price f_Wr_price f_Wm_price f_Wm_price_b19 f_Wm_price_b24 f_Wr_requireShift f_Wr_requireShift_b10
          rw [p_reqD hD hd, sb, sm_i, if_neg (fun q => h1 (b1.1 q)), if_neg (fun q => h4 (b4.1 q)), sb, sm_o, sb, sm_o, if_pos rfl, p_noD hD hd, sb, if_pos rfl, if_neg (fun q => h1 (b1.1 q)), if_neg (fun q => absurd (b3.1 q) (by omega)), if_neg (by decide)]
          exact ⟨rfl, rfl⟩
  rcases fin with ⟨g1, g2⟩ | ⟨d, s, hd, hs1, hs, rfl, rfl⟩
  · rw [g1, sb, sb, sb, g2, sb, ei]
    unfold f_Wm_thrown
    rw [sb, if_pos rfl]
    dsimp only
    rw [if_neg (by decide)]
    exact ⟨_, _, _, r, rfl, ⟨D, lgN, sB, wB, ⟨rfl, rfl, rfl, rfl, rfl, rfl, rfl, rfl, rfl, rfl, rfl, rfl, rfl, rfl, rfl⟩, W, hP, hB, hPl, hnp⟩, by omega⟩
  · obtain ⟨h1, h2⟩ := ag_price hD hd hs1 hs hP.2.1
    have g1 : f_La_price (mI d) (mI s) (mI D) q q3 = some (0, vp_updL q3 0 (q (4 * d + s)).toInt64) := by
      unfold f_La_price
      rw [h1, sb, sm_i, q3_at, sb]
    rw [g1, sb, sb, sb, h2, sb, ei]
    unfold f_Wm_thrown
    rw [sb, if_pos rfl, if_pos rfl, q3_get, sb, if_pos rfl]
    exact ⟨_, _, _, r, rfl, ⟨D, lgN, sB, wB, ⟨rfl, rfl, rfl, rfl, rfl, rfl, rfl, rfl, rfl, rfl, rfl, rfl, rfl, rfl, rfl⟩, W, hP, hB, hPl, hnp⟩, by omega⟩
