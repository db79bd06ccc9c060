/-! pair: the case of the law -/
theorem ag_pair {fu : Nat} {a b c d bk gl rc rounds bd sol : Int32} {s0 s1 s2 q co qm : Nat → Int32} {q4 : Nat → Int64} (hfu : 24 < fu) (hsc : ∀ n k, n < 3 → k < 16 → pk s0 s1 s2 n k = co (16 * n + k)) :
    (∃ cd v, cd ≠ 0 ∧ f_La_pair fu a b c d bk s0 s1 s2 gl rc q q4 = some (cd, bk, s0, s1, s2, gl, rc, q, q4) ∧ f_Wm_pair fu a b c d rounds bd sol co qm = some (v, cd, rounds, bd, sol, co, qm)) ∨ ∃ n j v q' qm', n < 3 ∧ j < 16 ∧ 0 ≤ d.toInt ∧ d.toInt ≤ 99 ∧ (∀ k, k < 24 → q' k = 0) ∧ (∀ k, k < 24 → qm' k = 0) ∧ f_La_pair fu a b c d bk s0 s1 s2 gl rc q q4 = some (0, 0, (if n = 0 then upd s0 j d else s0), (if n = 1 then upd s1 j d else s1), (if n = 2 then upd s2 j d else s2), -1, 0, q', vp_updL q4 0 v.toInt64) ∧ f_Wm_pair fu a b c d rounds bd sol co qm = some (v, 0, 0, -1, 0, upd co (16 * n + j) d, qm') := by
  have bad : ∀ t, t ≠ 0 → f_Wm_pair_b43 fu a b c d t rounds bd sol co qm = some (0, t, rounds, bd, sol, co, qm) := by
    intro t ht
    unfold f_Wm_pair_b43
    rw [if_neg ht]
  unfold f_La_pair f_Wr_pair f_Wm_pair f_Wm_pair_b22 f_Wm_pair_b38
  rw [bad 1 (by decide), bad 2 (by decide)]
  rcases nurse_c a with ⟨h1, h2⟩ | ⟨n, hn, rfl⟩
  · left
    refine ⟨1, 0, by decide, ?_, ?_⟩
    · rw [h1, sb, sm_o, sb, sm_o]
      dsimp only
      rw [if_pos rfl]
    · rw [h2, sb, if_neg (by decide)]
  · rw [p_reqN n hn, p_noNurse n hn, sb, sb, sm_i, if_pos rfl]
    rcases shift_c b with ⟨h1, h2⟩ | ⟨e, he, rfl⟩
    · left
      refine ⟨1, 0, by decide, ?_, ?_⟩
      · rw [h1, sb, sm_o, sb, sm_o]
        dsimp only
        rw [if_pos rfl]
      · rw [h2, sb, if_neg (by decide)]
    · rw [(p_reqS e he).1, (p_reqS e he).2, sb, sb, sm_i, if_pos rfl]
      rcases shift_c c with ⟨h1, h2⟩ | ⟨s, hs, rfl⟩
      · left
        refine ⟨1, 0, by decide, ?_, ?_⟩
        · rw [h1, sb, sm_o, sb, sm_o]
          dsimp only
          rw [if_pos rfl]
        · rw [h2, sb, if_neg (by decide)]
      · rw [(p_reqS s hs).1, (p_reqS s hs).2, sb, sb, sm_i, if_pos rfl]
        have c0 : (d < 0) ↔ d.toInt < 0 := lt_i (a := 0) (by omega) (by omega)
        have c3 : (d ≤ 99) ↔ d.toInt ≤ 99 := le_i (a := 99) (by omega) (by omega)
        rcases val_c d (lo := 0) (hi := 99) (by omega) (by omega) (by omega) (by omega) with ⟨v1, v2⟩ | ⟨v1, v2, v3⟩
        · left
          have v1 : f_Wr_requireValue d 0 99 = _ := v1
          refine ⟨2, 0, by decide, ?_, ?_⟩
          · rw [v1, sb, sm_o, sb, sm_o]
            dsimp only
            rw [if_neg (by decide), if_pos rfl]
          · rcases v2 with v2 | v2
            · rw [if_pos (c0.2 v2)]
            · rw [if_neg (fun q => absurd (c0.1 q) (by omega)), if_neg (fun q => absurd (c3.1 q) (by omega))]
        · right
          have v1 : f_Wr_requireValue d 0 99 = _ := v1
          obtain ⟨q', p1, p2⟩ := p_forget (q := q) hfu
          obtain ⟨qm', p3, p4⟩ := p_change (q := qm) hfu
          have ee : ((16 * mI n) + (4 * mI e)) + mI s = mI (16 * n + (4 * e + s)) := by
            show ((mI 16 * mI n) + (mI 4 * mI e)) + mI s = _
            rw [mI_mul, mI_mul, mI_add, mI_add]
            congr 1
            omega
          refine ⟨n, 4 * e + s, co (16 * n + (4 * e + s)), q', qm', hn, by omega, v2, v3, p2, p4, ?_, ?_⟩
          · have hv := hsc n (4 * e + s) hn (by omega)
            rw [v1, sb, sm_i, p_cell, p1]
            rcases n3 hn with rfl | rfl | rfl
            · rw [if_pos (by decide), sb, gi_n (by omega) (by omega), sb, sb, si_n (by omega) (by omega), sb, sb, sb, sm_i]
              dsimp only
              rw [q3_at, sb, ← hv]; rfl
            · rw [if_neg (by decide), if_pos (by decide), sb, gi_n (by omega) (by omega), sb, sb, si_n (by omega) (by omega), sb, sb, sb, sm_i]
              dsimp only
              rw [q3_at, sb, ← hv]; rfl
            · rw [if_neg (by decide), if_neg (by decide), if_pos (by decide), sb, gi_n (by omega) (by omega), sb, sb, si_n (by omega) (by omega), sb, sb, sb, sm_i]
              dsimp only
              rw [q3_at, sb, ← hv]; rfl
          · rw [if_neg (fun q => absurd (c0.1 q) (by omega)), if_pos (c3.2 v3)]
            unfold f_Wm_pair_b43
            rw [if_pos rfl, ee, gi_n (by omega) (by omega), sb, si_n (by omega) (by omega), sb, p3, sb]
theorem k5 {fu L i r : Nat} {xs : Nat → Int32} {gx : GX} {gm : GM} {q3 : Nat → Int64} (hfu : 4096 < fu) (hi : i + 5 ≤ L) (hL : L < 2 ^ 31) (hr : r + 12 < 10000) (h : Rel gx gm r) : ∃ gx' gm' q3' r', f_La_c5 fu L xs (mI i) gx gm q3 = some (.inl (mI (i + 5), gx', gm', q3')) ∧ Rel gx' gm' r' ∧ r' ≤ r + 12 := by
  obtain ⟨pl, be, bk, dc, n0, f0, g0, t0, d0, sc0, pc0, fx0, n1, f1, g1, t1, d1, sc1, pc1, fx1, n2, f2, g2, t2, d2, sc2, pc2, fx2, nd, wk, wnk, ww, wnw, sa, ss, sk, snk, gl, rc, q, np⟩ := gx
  obtain ⟨th, days, rounds, bd, sol, least, isP, leg, pen, rep, fbA, lgA, bs, bw, ndM, co, pa, fi, qm, cn, best, plan, rest, af, we, cv, fd⟩ := gm
  unfold Rel RelP at h
  dsimp only at h
  obtain ⟨D, lgN, sB, wB, ⟨e1, e2, e3, e4, e5, e6, e7, e8, e9, e10, e11, e12, e13, e14, e15⟩, W, hP, hB, hPl, hnp⟩ := h
  subst e1 e2 e3 e4 e5 e6 e7 e8 e9 e10 e11 e12 e13 e14 e15
  have hD := W.hD
  have ei : mI i + 5 = mI (i + 5) := mI_add i 5
  have x1 : gi L xs (mI i + 1) = some (xs (i + 1)) := arg_at (j := 1) (by omega) hL
  generalize xs (i + 1) = a1 at x1
  have x2 : gi L xs (mI i + 2) = some (xs (i + 2)) := arg_at (j := 2) (by omega) hL
  generalize xs (i + 2) = a2 at x2
  have x3 : gi L xs (mI i + 3) = some (xs (i + 3)) := arg_at (j := 3) (by omega) hL
  generalize xs (i + 3) = a3 at x3
  have x4 : gi L xs (mI i + 4) = some (xs (i + 4)) := arg_at (j := 4) (by omega) hL
  generalize xs (i + 4) = a4 at x4
  unfold f_La_c5
  dsimp only
  rw [x1, sb, x2, sb, x3, sb, x4, sb]
  rcases ag_pair (fu := fu) (a := a1) (b := a2) (c := a3) (d := a4) (bk := bk) (gl := gl) (rc := rc) (rounds := mI r) (bd := bd) (sol := sol) (q := q) (qm := qm) (q4 := q3) (by omega) W.pc with ⟨cd, v, hcd, h1, h2⟩ | ⟨n, j, v, q', qm', hn, hj, hc0, hc3, z1, z2, h1, h2⟩
  · rw [h1, sb, sb, sb, sb, sb, h2, sb, ei]
    unfold f_Wm_thrown
    rw [sb, if_pos rfl, if_neg hcd]
    exact ⟨_, _, _, r, rfl, ⟨D, lgN, sB, wB, ⟨rfl, rfl, rfl, rfl, rfl, rfl, rfl, rfl, rfl, rfl, rfl, rfl, rfl, rfl, rfl⟩, W, hP, hB, hPl, hnp⟩, by omega⟩
  · rw [h1, sb, sb, sb, sb, sb, h2, sb, ei]
    unfold f_Wm_thrown
    rw [sb, if_pos rfl, if_pos rfl, q3_get, sb, if_pos rfl]
    refine ⟨_, _, _, 0, rfl, ⟨D, lgN, sB, wB, ⟨rfl, rfl, rfl, rfl, rfl, rfl, rfl, rfl, rfl, rfl, rfl, rfl, rfl, rfl, rfl⟩, wd_pair (n := n) W hj ⟨hc0, hc3⟩ ?_ ?_, pr_new z1 z2, .inl ⟨rfl, rfl⟩, hPl, hnp⟩, by omega⟩
    · rcases n3 hn with rfl | rfl | rfl <;> rfl
    · intro m hm hne
      rcases n3 hn with rfl | rfl | rfl <;> rcases n3 hm with rfl | rfl | rfl <;> first | exact absurd rfl hne | rfl
