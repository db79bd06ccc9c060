/-! open: the case of the law -/
theorem p_startWard {fu : Nat} {v : Int32} {sc0 pc0 fx0 sc1 pc1 fx1 sc2 pc2 fx2 nd q : Nat → Int32} (hfu : 24 < fu) : ∃ sc0' pc0' fx0' sc1' pc1' fx1' sc2' pc2' fx2' nd' q', f_Wr_startWard fu v sc0 pc0 fx0 sc1 pc1 fx1 sc2 pc2 fx2 nd q = some (jJ NO, 0, v, 0, 4, 0, v, sc0', pc0', fx0', 0, 4, 0, v, sc1', pc1', fx1', 0, 4, 0, v, sc2', pc2', fx2', nd', -1, 0, q') ∧ (∀ n k, n < 3 → k < 24 → pk sc0' sc1' sc2' n k = 0) ∧ (∀ n k, n < 3 → k < 16 → pk pc0' pc1' pc2' n k = 0) ∧ (∀ n d, n < 3 → d < 6 → pk fx0' fx1' fx2' n d = -1) ∧ (∀ k, k < 24 → nd' k = 0) ∧ ∀ k, k < 24 → q' k = 0 := by
  obtain ⟨g, a1, a2, _⟩ := p_fill_I (fu := fu) (n := 24) (x := 0) (f := nd) (by omega) hfu
  obtain ⟨s0, p0, f0, b1, b2, b3, b4⟩ := p_NuClear (v := v) (sc := sc0) (pc := pc0) (fx := fx0) hfu
  obtain ⟨s1, p1, f1, c1, c2, c3, c4⟩ := p_NuClear (v := v) (sc := sc1) (pc := pc1) (fx := fx1) hfu
  obtain ⟨s2, p2, f2, d1, d2, d3, d4⟩ := p_NuClear (v := v) (sc := sc2) (pc := pc2) (fx := fx2) hfu
  obtain ⟨q', e1, e2⟩ := p_forget (q := q) hfu
  refine ⟨s0, p0, f0, s1, p1, f1, s2, p2, f2, g, q', ?_, ?_, ?_, ?_, a2, e2⟩
  · unfold f_Wr_startWard f_Wa_clear
    rw [a1, sb, b1, sb, c1, sb, d1, sb, sb, e1, sb, NO_jJ]
  · intro n k hn hk
    rcases n3 hn with rfl | rfl | rfl
    · exact b2 k hk
    · exact c2 k hk
    · exact d2 k hk
  · intro n k hn hk
    rcases n3 hn with rfl | rfl | rfl
    · exact b3 k hk
    · exact c3 k hk
    · exact d3 k hk
  · intro n k hn hk
    rcases n3 hn with rfl | rfl | rfl
    · exact b4 k hk
    · exact c4 k hk
    · exact d4 k hk
theorem k0 {fu L i r : Nat} {xs : Nat → Int32} {gx : GX} {gm : GM} {q3 : Nat → Int64} (hfu : 4096 < fu) (hi : i + 5 ≤ L) (hL : L < 2 ^ 31) (hr : r + 12 < 10000) (h : Rel gx gm r) : ∃ gx' gm' q3' r', f_La_c0 fu L xs (mI i) gx gm q3 = some (.inl (mI (i + 5), gx', gm', q3')) ∧ Rel gx' gm' r' ∧ r' ≤ r + 12 := by
  obtain ⟨pl, be, bk, dc, n0, f0, g0, t0, d0, sc0, pc0, fx0, n1, f1, g1, t1, d1, sc1, pc1, fx1, n2, f2, g2, t2, d2, sc2, pc2, fx2, nd, wk, wnk, ww, wnw, sa, ss, sk, snk, gl, rc, q, np⟩ := gx
  obtain ⟨th, days, rounds, bd, sol, least, isP, leg, pen, rep, fbA, lgA, bs, bw, ndM, co, pa, fi, qm, cn, best, plan, rest, af, we, cv, fd⟩ := gm
  unfold Rel RelP at h
  dsimp only at h
  obtain ⟨D, lgN, sB, wB, ⟨e1, e2, e3, e4, e5, e6, e7, e8, e9, e10, e11, e12, e13, e14, e15⟩, W, hP, hB, hPl, hnp⟩ := h
  subst e1 e2 e3 e4 e5 e6 e7 e8 e9 e10 e11 e12 e13 e14 e15
  have hD := W.hD
  have ei : mI i + 5 = mI (i + 5) := mI_add i 5
  have x1 : gi L xs (mI i + 1) = some (xs (i + 1)) := arg_at (j := 1) (by omega) hL
  generalize xs (i + 1) = a1 at x1
  unfold f_La_c0
  dsimp only
  rw [x1, sb]
  have c0 : (a1 < 1) ↔ a1.toInt < 1 := lt_i (a := 1) (by omega) (by omega)
  have c6 : (a1 ≤ 6) ↔ a1.toInt ≤ 6 := le_i (a := 6) (by omega) (by omega)
  rcases val_c a1 (lo := 1) (hi := 6) (by omega) (by omega) (by omega) (by omega) with ⟨v1, v2⟩ | ⟨v1, v2, v3⟩
  · have v1 : f_Wr_requireValue a1 1 6 = _ := v1
    have G1 : f_La_open fu a1 pl bk (mI D) f0 (mI (lgN 0)) (mI (so (sB 0) (wB 0))) (mI D) sc0 pc0 fx0 f1 (mI (lgN 1)) (mI (so (sB 1) (wB 1))) (mI D) sc1 pc1 fx1 f2 (mI (lgN 2)) (mI (so (sB 2) (wB 2))) (mI D) sc2 pc2 fx2 nd gl rc q = some (1, pl, bk, mI D, f0, mI (lgN 0), mI (so (sB 0) (wB 0)), mI D, sc0, pc0, fx0, f1, mI (lgN 1), mI (so (sB 1) (wB 1)), mI D, sc1, pc1, fx1, f2, mI (lgN 2), mI (so (sB 2) (wB 2)), mI D, sc2, pc2, fx2, nd, gl, rc, q) := by
      unfold f_La_open f_Wr_open
      rw [v1, sb, sm_o, sb, sm_o]
      dsimp only
      rw [if_pos rfl]
    have G2 : f_Wm_open fu a1 (mI D) (mI r) bd sol isP fbA lgA bs bw ndM co pa fi qm = some (1, mI D, mI r, bd, sol, isP, fbA, lgA, bs, bw, ndM, co, pa, fi, qm) := by
      have hb : ∀ {α : Type} {x y : α}, (if a1 < 1 then x else if a1 ≤ 6 then y else x) = x := by
        intro α x y
        rcases v2 with v2 | v2
        · rw [if_pos (c0.2 v2)]
        · rw [if_neg (fun q => absurd (c0.1 q) (by omega)), if_neg (fun q => absurd (c6.1 q) (by omega))]
      unfold f_Wm_open f_Wm_open_b12
      rw [hb]
      unfold f_Wm_open_b17
      rw [if_neg (by decide)]
    rw [G1, sb, sb, G2, sb, ei]
    unfold f_Wm_thrown
    rw [sb, if_pos rfl]
    exact ⟨_, _, _, r, rfl, ⟨D, lgN, sB, wB, ⟨rfl, rfl, rfl, rfl, rfl, rfl, rfl, rfl, rfl, rfl, rfl, rfl, rfl, rfl, rfl⟩, W, hP, hB, hPl, hnp⟩, by omega⟩
  · have v1 : f_Wr_requireValue a1 1 6 = _ := v1
    obtain ⟨sc0', pc0', fx0', sc1', pc1', fx1', sc2', pc2', fx2', nd', q', g1, g2, g3, g4, g5, g6⟩ := p_startWard (fu := fu) (v := a1) (sc0 := sc0) (pc0 := pc0) (fx0 := fx0) (sc1 := sc1) (pc1 := pc1) (fx1 := fx1) (sc2 := sc2) (pc2 := pc2) (fx2 := fx2) (nd := nd) (q := q) (by omega)
    obtain ⟨fb', lg', bs', bw', ndM', co', pa', fi', qm', m1, m2, m3, m4, m5, m6, m7⟩ := p_begin (fu := fu) (v := a1) (fb := fbA) (lg := lgA) (bs := bs) (bw := bw) (nd := ndM) (co := co) (pa := pa) (fi := fi) (q := qm) (by omega)
    have G1 : f_La_open fu a1 pl bk (mI D) f0 (mI (lgN 0)) (mI (so (sB 0) (wB 0))) (mI D) sc0 pc0 fx0 f1 (mI (lgN 1)) (mI (so (sB 1) (wB 1))) (mI D) sc1 pc1 fx1 f2 (mI (lgN 2)) (mI (so (sB 2) (wB 2))) (mI D) sc2 pc2 fx2 nd gl rc q = some (0, jJ NO, 0, a1, 0, 4, 0, a1, sc0', pc0', fx0', 0, 4, 0, a1, sc1', pc1', fx1', 0, 4, 0, a1, sc2', pc2', fx2', nd', -1, 0, q') := by
      unfold f_La_open f_Wr_open
      rw [v1, sb, sm_i, g1, sb, sb, sm_i]
    have G2 : f_Wm_open fu a1 (mI D) (mI r) bd sol isP fbA lgA bs bw ndM co pa fi qm = some (0, a1, 0, -1, 0, 0, fb', lg', bs', bw', ndM', co', pa', fi', qm') := by
      unfold f_Wm_open
      rw [if_neg (fun q => absurd (c0.1 q) (by omega)), if_pos (c6.2 v3)]
      unfold f_Wm_open_b17
      rw [if_pos rfl, m1, sb]
    rw [G1, sb, sb, G2, sb, ei]
    unfold f_Wm_thrown
    rw [sb, if_pos rfl]
    have ha : a1 = mI a1.toInt.toNat := i_nat (by omega)
    refine ⟨_, _, _, 0, rfl, ⟨a1.toInt.toNat, fun _ => 4, fun _ => 0, fun _ => 0, ⟨ha, rfl, rfl, rfl, rfl, rfl, rfl, rfl, rfl, rfl, ha, ha, ha, ha, rfl⟩, wd_new (by omega) (by omega) ?_ g2 g3 g4 g5 m2 m3 m4 m5 m6, pr_new g6 m7, .inl ⟨rfl, rfl⟩, .inl ⟨rfl, rfl⟩, hnp⟩, by omega⟩
    intro n hn
    rcases n3 hn with rfl | rfl | rfl <;> rfl
