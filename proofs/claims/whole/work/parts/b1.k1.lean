/-! contract and before: the cases of the law -/
theorem ag_contract {fu : Nat} {a b c bk f0 g0 f1 g1 f2 g2 gl rc rounds bd sol : Int32} {q fbA lgA qm : Nat → Int32} (hfu : 24 < fu) :
    (∃ cd, f_La_contract fu a b c bk f0 g0 f1 g1 f2 g2 gl rc q = some (cd, bk, f0, g0, f1, g1, f2, g2, gl, rc, q) ∧ f_Wm_contract fu a b c rounds bd sol fbA lgA qm = some (cd, rounds, bd, sol, fbA, lgA, qm)) ∨ ∃ n g q' qm', n < 3 ∧ g ≤ 4 ∧ c = mI g ∧ (∀ k, k < 24 → q' k = 0) ∧ (∀ k, k < 24 → qm' k = 0) ∧ f_La_contract fu a b c bk f0 g0 f1 g1 f2 g2 gl rc q = some (0, 0, (if n = 0 then b else f0), (if n = 0 then c else g0), (if n = 1 then b else f1), (if n = 1 then c else g1), (if n = 2 then b else f2), (if n = 2 then c else g2), -1, 0, q') ∧ f_Wm_contract fu a b c rounds bd sol fbA lgA qm = some (0, 0, -1, 0, upd fbA n b, upd lgA n c, qm') := by
  unfold f_La_contract f_Wr_contract f_Wm_contract f_Wm_contract_b32
  rcases nurse_c a with ⟨h1, h2⟩ | ⟨n, hn, rfl⟩
  · left
    rw [h1, h2, sb, sb, sm_o, sb, sm_o]
    dsimp only
    rw [if_pos rfl, if_neg (by decide)]
    refine ⟨1, rfl, ?_⟩
    unfold f_Wm_contract_b37
    rw [if_neg (by decide)]
  · rw [p_reqN n hn, p_noNurse n hn, sb, sb, sm_i, if_pos rfl]
    have b0 : (b < 0) ↔ b.toInt < 0 := lt_i (a := 0) (by omega) (by omega)
    have b1 : (65535 < b) ↔ 65535 < b.toInt := by
      show iI 65535 < b ↔ _
      rw [Int32.lt_iff_toInt_lt, iI_toInt (by omega) (by omega)]
    have c0 : (c < 1) ↔ c.toInt < 1 := lt_i (a := 1) (by omega) (by omega)
    have c1 : (c ≤ 4) ↔ c.toInt ≤ 4 := le_i (a := 4) (by omega) (by omega)
    have bad : f_Wm_contract_b37 fu (mI n) b c 2 rounds bd sol fbA lgA qm = some (2, rounds, bd, sol, fbA, lgA, qm) := by
      unfold f_Wm_contract_b37
      rw [if_neg (by decide)]
    rw [bad]
    rcases val_c b (lo := 0) (hi := 65535) (by omega) (by omega) (by omega) (by omega) with ⟨v1, v2⟩ | ⟨v1, v2, v3⟩
    · left
      have v1 : f_Wr_requireValue b 0 65535 = _ := v1
      rw [v1, sb, sm_o, sb, sm_o]
      dsimp only
      rw [if_neg (by decide), if_pos rfl]
      refine ⟨2, rfl, ?_⟩
      rcases v2 with v2 | v2
      · rw [if_pos (b0.2 v2)]
      · rw [if_neg (fun q => absurd (b0.1 q) (by omega)), if_pos (b1.2 v2)]
    · have v1 : f_Wr_requireValue b 0 65535 = _ := v1
      rw [v1, sb, sm_i, if_neg (fun q => absurd (b0.1 q) (by omega)), if_neg (fun q => absurd (b1.1 q) (by omega))]
      rcases val_c c (lo := 1) (hi := 4) (by omega) (by omega) (by omega) (by omega) with ⟨u1, u2⟩ | ⟨u1, u2, u3⟩
      · left
        have u1 : f_Wr_requireValue c 1 4 = _ := u1
        rw [u1, sb, sm_o, sb, sm_o]
        dsimp only
        rw [if_neg (by decide), if_pos rfl]
        refine ⟨2, rfl, ?_⟩
        rcases u2 with u2 | u2
        · rw [if_pos (c0.2 u2)]
        · rw [if_neg (fun q => absurd (c0.1 q) (by omega)), if_neg (fun q => absurd (c1.1 q) (by omega))]
      · right
        have u1 : f_Wr_requireValue c 1 4 = _ := u1
        obtain ⟨q', p1, p2⟩ := p_forget (q := q) hfu
        obtain ⟨qm', p3, p4⟩ := p_change (q := qm) hfu
        refine ⟨n, c.toInt.toNat, q', qm', hn, by omega, i_nat (by omega), p2, p4, ?_, ?_⟩
        · rw [u1, sb, sm_i, p1]
          rcases n3 hn with rfl | rfl | rfl
          · rw [if_pos (by decide)]; rfl
          · rw [if_neg (by decide), if_pos (by decide)]; rfl
          · rw [if_neg (by decide), if_neg (by decide), if_pos (by decide)]; rfl
        · rw [if_neg (fun q => absurd (c0.1 q) (by omega)), if_pos (c1.2 u3)]
          unfold f_Wm_contract_b37
          rw [if_pos rfl, si_n hn (by omega), sb, si_n hn (by omega), sb, p3, sb]
theorem k1 {fu L i r : Nat} {xs : Nat → Int32} {gx : GX} {gm : GM} {q3 : Nat → Int64} (hfu : 4096 < fu) (hi : i + 5 ≤ L) (hL : L < 2 ^ 31) (hr : r + 12 < 10000) (h : Rel gx gm r) : ∃ gx' gm' q3' r', f_La_c1 fu L xs (mI i) gx gm q3 = some (.inl (mI (i + 5), gx', gm', q3')) ∧ Rel gx' gm' r' ∧ r' ≤ r + 12 := by
  obtain ⟨pl, be, bk, dc, n0, f0, g0, t0, d0, sc0, pc0, fx0, n1, f1, g1, t1, d1, sc1, pc1, fx1, n2, f2, g2, t2, d2, sc2, pc2, fx2, nd, wk, wnk, ww, wnw, sa, ss, sk, snk, gl, rc, q, np⟩ := gx
  obtain ⟨th, days, rounds, bd, sol, least, isP, leg, pen, rep, fbA, lgA, bs, bw, ndM, co, pa, fi, qm, cn, best, plan, rest, af, we, cv, fd⟩ := gm
  unfold Rel RelP at h
  dsimp only at h
  obtain ⟨D, lgN, sB, wB, ⟨e1, e2, e3, e4, e5, e6, e7, e8, e9, e10, e11, e12, e13, e14, e15⟩, W, hP, hB, hPl, hnp⟩ := h
  subst e1 e2 e3 e4 e5 e6 e7 e8 e9 e10 e11 e12 e13 e14 e15
  have hD := W.hD
  have ei : mI i + 5 = mI (i + 5) := mI_add i 5
  have x1 : gi L xs (mI i + 1) = some (xs (i + 1)) := arg_at (j := 1) (by omega) hL
  generalize xs (i + 1) = a1 at x1
  have x2 : gi L xs (mI i + 2) = some (xs (i + 2)) := arg_at (j := 2) (by omega) hL
  generalize xs (i + 2) = a2 at x2
  have x3 : gi L xs (mI i + 3) = some (xs (i + 3)) := arg_at (j := 3) (by omega) hL
  generalize xs (i + 3) = a3 at x3
  unfold f_La_c1
  dsimp only
  rw [x1, sb, x2, sb, x3, sb]
  rcases ag_contract (fu := fu) (a := a1) (b := a2) (c := a3) (bk := bk) (f0 := f0) (g0 := mI (lgN 0)) (f1 := f1) (g1 := mI (lgN 1)) (f2 := f2) (g2 := mI (lgN 2)) (gl := gl) (rc := rc) (rounds := mI r) (bd := bd) (sol := sol) (q := q) (fbA := fbA) (lgA := lgA) (qm := qm) (by omega) with ⟨cd, h1, h2⟩ | ⟨n, g, q', qm', hn, hg, rfl, z1, z2, h1, h2⟩
  · rw [h1, sb, sb, sb, sb, h2, sb, ei]
    unfold f_Wm_thrown
    rw [sb, if_pos rfl]
    exact ⟨_, _, _, r, rfl, ⟨D, lgN, sB, wB, ⟨rfl, rfl, rfl, rfl, rfl, rfl, rfl, rfl, rfl, rfl, rfl, rfl, rfl, rfl, rfl⟩, W, hP, hB, hPl, hnp⟩, by omega⟩
  · rw [h1, sb, sb, sb, sb, h2, sb, ei]
    unfold f_Wm_thrown
    rw [sb, if_pos rfl]
    refine ⟨_, _, _, 0, rfl, ⟨D, fun m => if m = n then g else lgN m, sB, wB, ⟨rfl, rfl, rfl, rfl, ?_, ?_, ?_, rfl, rfl, rfl, rfl, rfl, rfl, rfl, rfl⟩, ?_, pr_new z1 z2, .inl ⟨rfl, rfl⟩, hPl, hnp⟩, by omega⟩
    · rcases n3 hn with rfl | rfl | rfl <;> rfl
    · rcases n3 hn with rfl | rfl | rfl <;> rfl
    · rcases n3 hn with rfl | rfl | rfl <;> rfl
    · refine wd_contract W hg ?_ ?_ (if_pos rfl) (fun m _ hm => if_neg hm)
      · rcases n3 hn with rfl | rfl | rfl <;> rfl
      · intro m hm hne
        rcases n3 hn with rfl | rfl | rfl <;> rcases n3 hm with rfl | rfl | rfl <;> first | exact absurd rfl hne | rfl
