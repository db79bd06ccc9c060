/-! fix: the case of the law -/
theorem ag_fix {fu D : Nat} {a b c bk gl rc rounds bd sol : Int32} {s0 s1 s2 q fi qm : Nat → Int32} {q4 : Nat → Int64} (hfu : 24 < fu) (hD : D ≤ 6) (hsc : ∀ n k, n < 3 → k < 6 → pk s0 s1 s2 n k = fi (6 * n + k)) :
    (∃ cd v, cd ≠ 0 ∧ f_La_fix fu a b c bk (mI D) s0 s1 s2 gl rc q q4 = some (cd, bk, s0, s1, s2, gl, rc, q, q4) ∧ f_Wm_fix fu a b c (mI D) rounds bd sol fi qm = some (v, cd, rounds, bd, sol, fi, qm)) ∨ ∃ n j v q' qm', n < 3 ∧ j < 6 ∧ (∀ k, k < 24 → q' k = 0) ∧ (∀ k, k < 24 → qm' k = 0) ∧ f_La_fix fu a b c bk (mI D) s0 s1 s2 gl rc q q4 = some (0, 0, (if n = 0 then upd s0 j c else s0), (if n = 1 then upd s1 j c else s1), (if n = 2 then upd s2 j c else s2), -1, 0, q', vp_updL q4 0 v.toInt64) ∧ f_Wm_fix fu a b c (mI D) rounds bd sol fi qm = some (v, 0, 0, -1, 0, upd fi (6 * n + j) c, qm') := by
  have bad : ∀ t, t ≠ 0 → f_Wm_fix_b35 fu a b c t rounds bd sol fi qm = some (0, t, rounds, bd, sol, fi, qm) := by
    intro t ht
    unfold f_Wm_fix_b35
    rw [if_neg ht]
  unfold f_La_fix f_Wr_fix f_Wm_fix f_Wm_fix_b16 f_Wm_fix_b30
  rw [bad 1 (by decide), bad 2 (by decide)]
  rcases nurse_c a with ⟨h1, h2⟩ | ⟨n, hn, rfl⟩
  · left
    refine ⟨1, 0, by decide, ?_, ?_⟩
    · rw [h1, sb, sm_o, sb, sm_o]
      dsimp only
      rw [if_pos rfl]
    · rw [h2, sb, if_neg (by decide)]
  · rw [p_reqN n hn, p_noNurse n hn, sb, sb, sm_i, if_pos rfl]
    rcases day_c b hD with ⟨h1, h2⟩ | ⟨e, he, rfl⟩
    · left
      refine ⟨1, 0, by decide, ?_, ?_⟩
      · rw [h1, sb, sm_o, sb, sm_o]
        dsimp only
        rw [if_pos rfl]
      · rw [h2, sb, if_neg (by decide)]
    · rw [p_reqD hD he, p_noD hD he, sb, sb, sm_i, if_pos rfl]
      have c0 : (c < -1) ↔ c.toInt < -1 := lt_i (a := -1) (by omega) (by omega)
      have c3 : (c ≤ 3) ↔ c.toInt ≤ 3 := le_i (a := 3) (by omega) (by omega)
      rcases val_c c (lo := -1) (hi := 3) (by omega) (by omega) (by omega) (by omega) with ⟨v1, v2⟩ | ⟨v1, v2, v3⟩
      · left
        have v1 : f_Wr_requireValue c (-1) 3 = _ := v1
        refine ⟨2, 0, by decide, ?_, ?_⟩
        · rw [v1, sb, sm_o, sb, sm_o]
          dsimp only
          rw [if_neg (by decide), if_pos rfl]
        · rcases v2 with v2 | v2
          · rw [if_pos (c0.2 v2)]
          · rw [if_neg (fun q => absurd (c0.1 q) (by omega)), if_neg (fun q => absurd (c3.1 q) (by omega))]
      · right
        have v1 : f_Wr_requireValue c (-1) 3 = _ := v1
        obtain ⟨q', p1, p2⟩ := p_forget (q := q) hfu
        obtain ⟨qm', p3, p4⟩ := p_change (q := qm) hfu
        have ee : (6 * mI n) + mI e = mI (6 * n + e) := by
          show (mI 6 * mI n) + mI e = _
          rw [mI_mul, mI_add]
        refine ⟨n, e, fi (6 * n + e), q', qm', hn, by omega, p2, p4, ?_, ?_⟩
        · have hv := hsc n e hn (by omega)
          rw [v1, sb, sm_i, p1]
          rcases n3 hn with rfl | rfl | rfl
          · rw [if_pos (by decide), gi_n (by omega) (by omega), sb, si_n (by omega) (by omega), sb, sb, sb, sm_i]
            dsimp only
            rw [q3_at, sb, ← hv]; rfl
          · rw [if_neg (by decide), if_pos (by decide), gi_n (by omega) (by omega), sb, si_n (by omega) (by omega), sb, sb, sb, sm_i]
            dsimp only
            rw [q3_at, sb, ← hv]; rfl
          · rw [if_neg (by decide), if_neg (by decide), if_pos (by decide), gi_n (by omega) (by omega), sb, si_n (by omega) (by omega), sb, sb, sb, sm_i]
            dsimp only
            rw [q3_at, sb, ← hv]; rfl
        · rw [if_neg (fun q => absurd (c0.1 q) (by omega)), if_pos (c3.2 v3)]
          unfold f_Wm_fix_b35
          rw [if_pos rfl, ee, gi_n (by omega) (by omega), sb, si_n (by omega) (by omega), sb, p3, sb]
theorem k6 {fu L i r : Nat} {xs : Nat → Int32} {gx : GX} {gm : GM} {q3 : Nat → Int64} (hfu : 4096 < fu) (hi : i + 5 ≤ L) (hL : L < 2 ^ 31) (hr : r + 12 < 10000) (h : Rel gx gm r) : ∃ gx' gm' q3' r', f_La_c6 fu L xs (mI i) gx gm q3 = some (.inl (mI (i + 5), gx', gm', q3')) ∧ Rel gx' gm' r' ∧ r' ≤ r + 12 := by
  obtain ⟨pl, be, bk, dc, n0, f0, g0, t0, d0, sc0, pc0, fx0, n1, f1, g1, t1, d1, sc1, pc1, fx1, n2, f2, g2, t2, d2, sc2, pc2, fx2, nd, wk, wnk, ww, wnw, sa, ss, sk, snk, gl, rc, q, np⟩ := gx
  obtain ⟨th, days, rounds, bd, sol, least, isP, leg, pen, rep, fbA, lgA, bs, bw, ndM, co, pa, fi, qm, cn, best, plan, rest, af, we, cv, fd⟩ := gm
  unfold Rel RelP at h
  dsimp only at h
  obtain ⟨D, lgN, sB, wB, ⟨e1, e2, e3, e4, e5, e6, e7, e8, e9, e10, e11, e12, e13, e14, e15⟩, W, hP, hB, hPl, hnp⟩ := h
  subst e1 e2 e3 e4 e5 e6 e7 e8 e9 e10 e11 e12 e13 e14 e15
  have hD := W.hD
  have ei : mI i + 5 = mI (i + 5) := mI_add i 5
  have x1 : gi L xs (mI i + 1) = some (xs (i + 1)) := arg_at (j := 1) (by omega) hL
  generalize xs (i + 1) = a1 at x1
  have x2 : gi L xs (mI i + 2) = some (xs (i + 2)) := arg_at (j := 2) (by omega) hL
  generalize xs (i + 2) = a2 at x2
  have x3 : gi L xs (mI i + 3) = some (xs (i + 3)) := arg_at (j := 3) (by omega) hL
  generalize xs (i + 3) = a3 at x3
  unfold f_La_c6
  dsimp only
  rw [x1, sb, x2, sb, x3, sb]
  rcases ag_fix (fu := fu) (a := a1) (b := a2) (c := a3) (bk := bk) (gl := gl) (rc := rc) (rounds := mI r) (bd := bd) (sol := sol) (q := q) (qm := qm) (q4 := q3) (by omega) hD W.fx with ⟨cd, v, hcd, h1, h2⟩ | ⟨n, j, v, q', qm', hn, hj, z1, z2, h1, h2⟩
  · rw [h1, sb, sb, sb, sb, h2, sb, ei]
    unfold f_Wm_thrown
    rw [sb, if_pos rfl, if_neg hcd]
    exact ⟨_, _, _, r, rfl, ⟨D, lgN, sB, wB, ⟨rfl, rfl, rfl, rfl, rfl, rfl, rfl, rfl, rfl, rfl, rfl, rfl, rfl, rfl, rfl⟩, W, hP, hB, hPl, hnp⟩, by omega⟩
  · rw [h1, sb, sb, sb, sb, h2, sb, ei]
    unfold f_Wm_thrown
    rw [sb, if_pos rfl, if_pos rfl, q3_get, sb, if_pos rfl]
    refine ⟨_, _, _, 0, rfl, ⟨D, lgN, sB, wB, ⟨rfl, rfl, rfl, rfl, rfl, rfl, rfl, rfl, rfl, rfl, rfl, rfl, rfl, rfl, rfl⟩, wd_fix (n := n) W hj ?_ ?_, pr_new z1 z2, .inl ⟨rfl, rfl⟩, hPl, hnp⟩, by omega⟩
    · rcases n3 hn with rfl | rfl | rfl <;> rfl
    · intro m hm hne
      rcases n3 hn with rfl | rfl | rfl <;> rcases n3 hm with rfl | rfl | rfl <;> first | exact absurd rfl hne | rfl
