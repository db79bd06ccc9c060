/-! before: the case of the law -/
theorem p_st {s w : Nat} (hs : s < 4) (hw : (s = 0 ∧ w = 0) ∨ (s ≠ 0 ∧ 1 ≤ w ∧ w ≤ 4)) : f_Wr_stateOf (mI s) (mI w) = some (mI (so s w)) := by
  rcases hw with ⟨rfl, rfl⟩ | ⟨h0, h1, h4⟩
  · rw [p_stateOf0 0 (by omega)]; rfl
  · exact p_stateOf s hs w (by omega) h1
theorem ag_before {fu : Nat} {a b c bk t0 t1 t2 gl rc rounds bd sol : Int32} {q bs bw qm : Nat → Int32} (hfu : 24 < fu) :
    (∃ cd, f_La_before fu a b c bk t0 t1 t2 gl rc q = some (cd, bk, t0, t1, t2, gl, rc, q) ∧ f_Wm_before fu a b c rounds bd sol bs bw qm = some (cd, rounds, bd, sol, bs, bw, qm)) ∨ ∃ n s w q' qm', n < 3 ∧ s < 4 ∧ ((s = 0 ∧ w = 0) ∨ (s ≠ 0 ∧ 1 ≤ w ∧ w ≤ 4)) ∧ (∀ k, k < 24 → q' k = 0) ∧ (∀ k, k < 24 → qm' k = 0) ∧ f_La_before fu a b c bk t0 t1 t2 gl rc q = some (0, 0, (if n = 0 then mI (so s w) else t0), (if n = 1 then mI (so s w) else t1), (if n = 2 then mI (so s w) else t2), -1, 0, q') ∧ f_Wm_before fu a b c rounds bd sol bs bw qm = some (0, 0, -1, 0, upd bs n (mI s), upd bw n (mI w), qm') := by
  have h33 : ∀ t, ((∃ n, n < 3 ∧ a = mI n) ∨ f_Wm_noNurse a = some 1) → f_Wm_before_b33 fu a b c t rounds bd sol bs bw qm = (f_Wm_noNurse a).bind fun v37 => if v37 = 0 then if t = 0 then f_Wm_before_b57 fu a b c 0 rounds bd sol bs bw qm else f_Wm_before_b57 fu a b c 2 rounds bd sol bs bw qm else f_Wm_before_b57 fu a b c 1 rounds bd sol bs bw qm := fun _ _ => rfl
  have bad : ∀ t, t ≠ 0 → f_Wm_before_b57 fu a b c t rounds bd sol bs bw qm = some (t, rounds, bd, sol, bs, bw, qm) := by
    intro t ht
    unfold f_Wm_before_b57
    rw [if_neg ht]
  unfold f_La_before f_Wr_before f_Wm_before f_Wm_before_b32 f_Wm_before_b28
  rcases nurse_c a with ⟨h1, h2⟩ | ⟨n, hn, rfl⟩
  · left
    have e : ∀ t, f_Wm_before_b33 fu a b c t rounds bd sol bs bw qm = some (1, rounds, bd, sol, bs, bw, qm) := by
      intro t
      unfold f_Wm_before_b33
      rw [h2, sb, if_neg (by decide), bad 1 (by decide)]
    refine ⟨1, ?_, ?_⟩
    · rw [h1, sb, sm_o, sb, sm_o]
      dsimp only
      rw [if_pos rfl]
    · rw [e, e]
      rcases shift_c b with ⟨_, s2⟩ | ⟨s, hs, rfl⟩
      · rw [s2, sb, if_neg (by decide)]
      · rw [(p_reqS s hs).2, sb, if_pos rfl]
        repeat' split
        all_goals rfl
  · have e1 : f_Wm_before_b33 fu (mI n) b c 1 rounds bd sol bs bw qm = some (2, rounds, bd, sol, bs, bw, qm) := by
      unfold f_Wm_before_b33
      rw [p_noNurse n hn, sb, if_pos rfl, if_neg (by decide), bad 2 (by decide)]
    have e0 : f_Wm_before_b33 fu (mI n) b c 0 rounds bd sol bs bw qm = f_Wm_before_b57 fu (mI n) b c 0 rounds bd sol bs bw qm := by
      unfold f_Wm_before_b33
      rw [p_noNurse n hn, sb, if_pos rfl, if_pos rfl]
    rw [e1, e0, p_reqN n hn, sb, sm_i]
    rcases val_c b (lo := 0) (hi := 3) (by omega) (by omega) (by omega) (by omega) with ⟨v1, v2⟩ | ⟨v1, v2, v3⟩
    · left
      have v1 : f_Wr_requireValue b 0 3 = _ := v1
      refine ⟨2, ?_, ?_⟩
      · rw [v1, sb, sm_o, sb, sm_o]
        dsimp only
        rw [if_neg (by decide), if_pos rfl]
      · rcases shift_c b with ⟨_, s2⟩ | ⟨s, hs, rfl⟩
        · rw [s2, sb, if_neg (by decide)]
        · exfalso
          rw [mI_iI, iI_toInt (by omega) (by omega)] at v2
          omega
    · have v1 : f_Wr_requireValue b 0 3 = _ := v1
      rw [v1, sb, sm_i]
      have hbs : b = mI b.toInt.toNat := i_nat v2
      have hb4 : b.toInt.toNat < 4 := by omega
      generalize b.toInt.toNat = s at hbs hb4
      subst hbs
      obtain ⟨q', p1, p2⟩ := p_forget (q := q) hfu
      obtain ⟨qm', p3, p4⟩ := p_change (q := qm) hfu
      have good : ∀ w, ((s = 0 ∧ w = 0) ∨ (s ≠ 0 ∧ 1 ≤ w ∧ w ≤ 4)) → f_Wr_before_b29 fu (mI n) (mI s) (mI w) t0 t1 t2 q = some (.inl (0, (if n = 0 then mI (so s w) else t0), (if n = 1 then mI (so s w) else t1), (if n = 2 then mI (so s w) else t2), -1, 0, q')) ∧ f_Wm_before_b57 fu (mI n) (mI s) (mI w) 0 rounds bd sol bs bw qm = some (0, 0, -1, 0, upd bs n (mI s), upd bw n (mI w), qm') := by
        intro w hw
        constructor
        · unfold f_Wr_before_b29
          rw [p_st hb4 hw, p1]
          rcases n3 hn with rfl | rfl | rfl
          · rw [if_pos (by decide)]; rfl
          · rw [if_neg (by decide), if_pos (by decide)]; rfl
          · rw [if_neg (by decide), if_neg (by decide), if_pos (by decide)]; rfl
        · unfold f_Wm_before_b57
          rw [if_pos rfl, si_n hn (by omega), sb, si_n hn (by omega), sb, p3, sb]
      rw [(p_reqS s hb4).2, sb, if_pos rfl]
      have es : (mI s = 0) ↔ s = 0 := mI_inj (b := 0) (by omega) (by omega)
      by_cases h0 : s = 0
      · rw [if_pos (es.2 h0), if_pos (es.2 h0)]
        rcases val_c c (lo := 0) (hi := 0) (by omega) (by omega) (by omega) (by omega) with ⟨u1, u2⟩ | ⟨u1, u2, u3⟩
        · left
          have u1 : f_Wr_requireValue c 0 0 = _ := u1
          refine ⟨2, ?_, ?_⟩
          · rw [u1, sb, sm_o, sb, sm_o]
            dsimp only
            rw [if_neg (by decide), if_pos rfl]
          · rw [if_neg]
            intro hc
            rw [hc] at u2
            have : (0 : Int32).toInt = 0 := by decide
            omega
        · right
          have u1 : f_Wr_requireValue c 0 0 = _ := u1
          have hc : c = mI 0 := by
            have := i_nat u2
            rw [show c.toInt.toNat = 0 by omega] at this
            exact this
          subst hc
          obtain ⟨g1, g2⟩ := good 0 (.inl ⟨h0, rfl⟩)
          refine ⟨n, s, 0, q', qm', hn, hb4, .inl ⟨h0, rfl⟩, p2, p4, ?_, ?_⟩
          · rw [u1, sb, sm_i, g1, sb, sm_i]
          · rw [if_pos (by decide), g2]
      · rw [if_neg (fun q => h0 (es.1 q)), if_neg (fun q => h0 (es.1 q))]
        have c0 : (c < 1) ↔ c.toInt < 1 := lt_i (a := 1) (by omega) (by omega)
        have c1 : (c ≤ 4) ↔ c.toInt ≤ 4 := le_i (a := 4) (by omega) (by omega)
        rcases val_c c (lo := 1) (hi := 4) (by omega) (by omega) (by omega) (by omega) with ⟨u1, u2⟩ | ⟨u1, u2, u3⟩
        · left
          have u1 : f_Wr_requireValue c 1 4 = _ := u1
          refine ⟨2, ?_, ?_⟩
          · rw [u1, sb, sm_o, sb, sm_o]
            dsimp only
            rw [if_neg (by decide), if_pos rfl]
          · rcases u2 with u2 | u2
            · rw [if_pos (c0.2 u2)]
            · rw [if_neg (fun q => absurd (c0.1 q) (by omega)), if_neg (fun q => absurd (c1.1 q) (by omega))]
        · right
          have u1 : f_Wr_requireValue c 1 4 = _ := u1
          have hc : c = mI c.toInt.toNat := i_nat (by omega)
          have hc1 : 1 ≤ c.toInt.toNat ∧ c.toInt.toNat ≤ 4 := by omega
          rw [if_neg (fun q => absurd (c0.1 q) (by omega)), if_pos (c1.2 u3)]
          generalize c.toInt.toNat = w at hc hc1
          subst hc
          obtain ⟨g1, g2⟩ := good w (.inr ⟨h0, hc1⟩)
          refine ⟨n, s, w, q', qm', hn, hb4, .inr ⟨h0, hc1⟩, p2, p4, ?_, g2⟩
          rw [u1, sb, sm_i, g1, sb, sm_i]
theorem k2 {fu L i r : Nat} {xs : Nat → Int32} {gx : GX} {gm : GM} {q3 : Nat → Int64} (hfu : 4096 < fu) (hi : i + 5 ≤ L) (hL : L < 2 ^ 31) (hr : r + 12 < 10000) (h : Rel gx gm r) : ∃ gx' gm' q3' r', f_La_c2 fu L xs (mI i) gx gm q3 = some (.inl (mI (i + 5), gx', gm', q3')) ∧ Rel gx' gm' r' ∧ r' ≤ r + 12 := by
  obtain ⟨pl, be, bk, dc, n0, f0, g0, t0, d0, sc0, pc0, fx0, n1, f1, g1, t1, d1, sc1, pc1, fx1, n2, f2, g2, t2, d2, sc2, pc2, fx2, nd, wk, wnk, ww, wnw, sa, ss, sk, snk, gl, rc, q, np⟩ := gx
  obtain ⟨th, days, rounds, bd, sol, least, isP, leg, pen, rep, fbA, lgA, bs, bw, ndM, co, pa, fi, qm, cn, best, plan, rest, af, we, cv, fd⟩ := gm
  unfold Rel RelP at h
  dsimp only at h
  obtain ⟨D, lgN, sB, wB, ⟨e1, e2, e3, e4, e5, e6, e7, e8, e9, e10, e11, e12, e13, e14, e15⟩, W, hP, hB, hPl, hnp⟩ := h
  subst e1 e2 e3 e4 e5 e6 e7 e8 e9 e10 e11 e12 e13 e14 e15
  have hD := W.hD
  have ei : mI i + 5 = mI (i + 5) := mI_add i 5
  have x1 : gi L xs (mI i + 1) = some (xs (i + 1)) := arg_at (j := 1) (by omega) hL
  generalize xs (i + 1) = a1 at x1
  have x2 : gi L xs (mI i + 2) = some (xs (i + 2)) := arg_at (j := 2) (by omega) hL
  generalize xs (i + 2) = a2 at x2
  have x3 : gi L xs (mI i + 3) = some (xs (i + 3)) := arg_at (j := 3) (by omega) hL
  generalize xs (i + 3) = a3 at x3
  unfold f_La_c2
  dsimp only
  rw [x1, sb, x2, sb, x3, sb]
  rcases ag_before (fu := fu) (a := a1) (b := a2) (c := a3) (bk := bk) (t0 := mI (so (sB 0) (wB 0))) (t1 := mI (so (sB 1) (wB 1))) (t2 := mI (so (sB 2) (wB 2))) (gl := gl) (rc := rc) (rounds := mI r) (bd := bd) (sol := sol) (q := q) (bs := bs) (bw := bw) (qm := qm) (by omega) with ⟨cd, h1, h2⟩ | ⟨n, s, w, q', qm', hn, hs, hw, z1, z2, h1, h2⟩
  · rw [h1, sb, sb, sb, sb, h2, sb, ei]
    unfold f_Wm_thrown
    rw [sb, if_pos rfl]
    exact ⟨_, _, _, r, rfl, ⟨D, lgN, sB, wB, ⟨rfl, rfl, rfl, rfl, rfl, rfl, rfl, rfl, rfl, rfl, rfl, rfl, rfl, rfl, rfl⟩, W, hP, hB, hPl, hnp⟩, by omega⟩
  · rw [h1, sb, sb, sb, sb, h2, sb, ei]
    unfold f_Wm_thrown
    rw [sb, if_pos rfl]
    refine ⟨_, _, _, 0, rfl, ⟨D, lgN, fun m => if m = n then s else sB m, fun m => if m = n then w else wB m, ⟨rfl, rfl, rfl, rfl, rfl, rfl, rfl, ?_, ?_, ?_, rfl, rfl, rfl, rfl, rfl⟩, ?_, pr_new z1 z2, .inl ⟨rfl, rfl⟩, hPl, hnp⟩, by omega⟩
    · rcases n3 hn with rfl | rfl | rfl <;> rfl
    · rcases n3 hn with rfl | rfl | rfl <;> rfl
    · rcases n3 hn with rfl | rfl | rfl <;> rfl
    · exact wd_before W hs hw (if_pos rfl) (fun m _ hm => if_neg hm) (if_pos rfl) (fun m _ hm => if_neg hm)
