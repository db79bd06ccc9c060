/-! check: class and reference answer alike -/
def csh (z : Int) (nd : Nat → Int32) : Nat → Nat
  | 0 => 0
  | d + 1 => csh z nd d + shc z d nd 3
theorem shc_nd {z : Int} {nd nd' : Nat → Int32} (h : ∀ k, k < 24 → nd k = nd' k) {d : Nat} (hd : d < 6) : ∀ k, k ≤ 3 → shc z d nd k = shc z d nd' k := by
  intro k
  induction k with
  | zero => intro _; rfl
  | succ k ih =>
    intro hk
    unfold shc
    rw [ih (by omega), h (4 * d + (k + 1)) (by omega)]
theorem shc_le {z : Int} {nd : Nat → Int32} {d : Nat} : ∀ k, shc z d nd k ≤ k := by
  intro k
  induction k with
  | zero => exact Nat.le_refl 0
  | succ k ih => unfold shc; split <;> omega
theorem csh_le {z : Int} {nd : Nat → Int32} : ∀ d, csh z nd d ≤ 3 * d := by
  intro d
  induction d with
  | zero => exact Nat.le_refl 0
  | succ d ih =>
    have := shc_le (z := z) (nd := nd) (d := d) 3
    unfold csh
    omega
theorem csh_nd {z : Int} {nd nd' : Nat → Int32} (h : ∀ k, k < 24 → nd k = nd' k) : ∀ d, d ≤ 6 → csh z nd d = csh z nd' d := by
  intro d
  induction d with
  | zero => intro _; rfl
  | succ d ih =>
    intro hd
    unfold csh
    rw [ih (by omega), shc_nd h (by omega) 3 (Nat.le_refl 3)]
theorem p_b50 {fu D b : Nat} {z : Int} {nd : Nat → Int32} (hfu : 6 < fu) (hD : D ≤ 6) (hnd : Lim 24 3 nd) (h1 : -2 ^ 63 ≤ z) (h2 : z < 2 ^ 63) : f_Wr_check_b50 fu (mI b) (jJ z) (mI D) nd = some (mI (b + csh z nd D)) := by
  obtain ⟨r, g1, g2⟩ := iter_for (N := D) (b := f_Wr_check_l52 fu (jJ z) (mI D) nd) (fun d (s : Int32 × Int32) => s = (mI (b + csh z nd d), mI d)) (P := fun (r : Int32 × Int32) => r.1 = mI (b + csh z nd D))
    (by
      rintro d _ hd rfl
      unfold f_Wr_check_l52
      dsimp only
      rw [if_neg (show ¬ mI D ≤ mI d from fun q => absurd ((mI_le (by omega) (by omega)).1 q) (by omega)), p_countShort (by omega) (by omega) hnd h1 h2, sb, mI_1, mI_add]
      exact ⟨_, rfl, by rw [Nat.add_assoc]; rfl⟩)
    (by
      rintro _ rfl
      refine ⟨(mI (b + csh z nd D), mI D), ?_, rfl⟩
      unfold f_Wr_check_l52
      dsimp only
      rw [if_pos (show mI D ≤ mI D from (mI_le (by omega) (by omega)).2 (by omega))])
    fu 0 (mI b, mI 0) (by omega) (by omega) rfl
  unfold f_Wr_check_b50
  show (iter _ fu (mI b, mI 0)).bind _ = _
  rw [g1, sb, g2]
def nb (b : Bool) : Nat := if b = true then 0 else 100
theorem p_check {fu D : Nat} {lgN sB wB : Nat → Nat} {fbN : Nat → Int32} {fxN scN pcN : Nat → Nat → Int32} {nd fbA lgA bs bw ndM co pa fi : Nat → Int32} {z : Int} (hfu : 4096 < fu) (W : Wd D lgN sB wB fbN fxN scN pcN nd fbA lgA bs bw ndM co pa fi) (h1 : 0 ≤ z) (h2 : z < 2 ^ 61) : f_Wr_check fu (jJ z) (mI D) (mI 0) (fbN 0) (mI (lgN 0)) (mI (so (sB 0) (wB 0))) (mI D) (fxN 0) (mI 1) (fbN 1) (mI (lgN 1)) (mI (so (sB 1) (wB 1))) (mI D) (fxN 1) (mI 2) (fbN 2) (mI (lgN 2)) (mI (so (sB 2) (wB 2))) (mI D) (fxN 2) nd = some (mI (nb (lok D lgN sB wB fbN fxN 0 (lc z 0 D)) + nb (lok D lgN sB wB fbN fxN 1 (lc z 1 D)) + nb (lok D lgN sB wB fbN fxN 2 (lc z 2 D)) + csh z nd D)) := by
  have hD := W.hD
  have hN : NO = 2 ^ 62 := by decide
  have lcl : ∀ n d, lc z n d < 4 ^ d := by
    intro n d
    induction d with
    | zero => exact Nat.one_pos
    | succ d ih =>
      have := dg_lt z d n
      show 4 * lc z n d + dg z d n < 4 ^ (d + 1)
      rw [Nat.pow_succ]
      omega
  have al : ∀ n, n < 3 → f_Nu_allowsLine fu (jJ z) (mI n) (fbN n) (mI (lgN n)) (mI (so (sB n) (wB n))) (mI D) (fxN n) = some (bI (lok D lgN sB wB fbN fxN n (lc z n D))) := by
    intro n hn
    have hw' : (sB n = 0 ∧ wB n = 0) ∨ (sB n ≠ 0 ∧ 1 ≤ wB n) := by have := W.wB n hn; omega
    rw [p_allowsLine (by omega) hD hn (W.lg n hn) (W.sot hn) (by omega) (by omega), lemA_some (W.sB n hn) hw' (Nat.le_refl D) (lcl n D)]
    rfl
  have e5 : ∀ b, f_Wr_check_b50 fu (mI b) (jJ z) (mI D) nd = some (mI (b + csh z nd D)) := fun b => p_b50 (by omega) hD W.lnd' (by omega) (by omega)
  have e0 : f_Wr_check_b50 fu 0 (jJ z) (mI D) nd = some (mI (0 + csh z nd D)) := e5 0
  have e1 : f_Wr_check_b50 fu 100 (jJ z) (mI D) nd = some (mI (100 + csh z nd D)) := e5 100
  have e2 : f_Wr_check_b50 fu 200 (jJ z) (mI D) nd = some (mI (200 + csh z nd D)) := e5 200
  have e3 : f_Wr_check_b50 fu 300 (jJ z) (mI D) nd = some (mI (300 + csh z nd D)) := e5 300
  unfold f_Wr_check
  rw [NO_jJ, if_neg (fun q => absurd ((jJ_inj (by omega) (by omega) (by omega) (by omega)).1 q) (by omega)), al 0 (by omega), sb]
  simp only [al 1 (by omega), al 2 (by omega), sb, e0, e1, e2, e3]
  cases lok D lgN sB wB fbN fxN 0 (lc z 0 D) <;> cases lok D lgN sB wB fbN fxN 1 (lc z 1 D) <;> cases lok D lgN sB wB fbN fxN 2 (lc z 2 D) <;> simp [bI, nb]
theorem q_c28 {fu D n : Nat} {z : Int} {plan : Nat → Int32} (hfu : 6 < fu) (hD : D ≤ 6) (hn : n < 3) (hp : ∀ d, d < D → plan (6 * n + d) = mI (dg z d n)) : ∃ r, iter (f_Wm_check_l28 (mI n) (mI D) plan) fu (mI 0, mI 0) = some r ∧ r.1 = mI (lc z n D) := by
  refine iter_for (N := D) (fun d (s : Int32 × Int32) => s = (mI (lc z n d), mI d)) (P := fun (r : Int32 × Int32) => r.1 = mI (lc z n D)) ?_ ?_ fu 0 (mI 0, mI 0) (by omega) (by omega) rfl
  · rintro d _ hd rfl
    unfold f_Wm_check_l28
    dsimp only
    have e : 6 * mI n + mI d = mI (6 * n + d) := by
      show mI 6 * mI n + mI d = _
      rw [mI_mul, mI_add]
    rw [if_neg (show ¬ mI D ≤ mI d from fun q => absurd ((mI_le (by omega) (by omega)).1 q) (by omega)), e, gi_n (by omega) (by omega), sb, hp d hd, mI_1]
    refine ⟨_, rfl, ?_⟩
    show (mI 4 * mI (lc z n d) + mI (dg z d n), _) = _
    rw [mI_mul, mI_add]; rfl
  · rintro _ rfl
    refine ⟨(mI (lc z n D), mI D), ?_, rfl⟩
    unfold f_Wm_check_l28
    dsimp only
    rw [if_pos (show mI D ≤ mI D from (mI_le (by omega) (by omega)).2 (by omega))]
theorem q_c105 {fu k : Nat} {z : Int} {plan : Nat → Int32} (hfu : 3 < fu) (hk : k < 24) (h0 : k % 4 ≠ 0) (hp : ∀ n, n < 3 → plan (6 * n + k / 4) = mI (dg z (k / 4) n)) : ∃ r, iter (f_Wm_check_l105 (mI k) plan) fu (iI 0, mI 0) = some r ∧ r.1 = iI (ms z (k / 4) (k % 4) 3) := by
  have e0 : mI k - mI k / 4 * 4 = mI (k % 4) := by
    show mI k - mI k / mI 4 * mI 4 = _
    rw [mI_div (by omega) (by omega), mI_mul, mI_sub (by omega)]
    congr 1
    omega
  have e1 : mI k / 4 = mI (k / 4) := mI_div (b := 4) (by omega) (by omega)
  refine iter_for (N := 3) (fun n (s : Int32 × Int32) => s = (iI (ms z (k / 4) (k % 4) n), mI n)) (P := fun (r : Int32 × Int32) => r.1 = iI (ms z (k / 4) (k % 4) 3)) ?_ ?_ fu 0 (iI 0, mI 0) (by omega) (by omega) rfl
  · rintro n _ hn rfl
    have hdg := dg_lt z (k / 4) n
    have e : 6 * mI n + mI (k / 4) = mI (6 * n + k / 4) := by
      show mI 6 * mI n + _ = _
      rw [mI_mul, mI_add]
    unfold f_Wm_check_l105 f_Wm_check_b143
    dsimp only
    rw [if_neg (show ¬ (3 : Int32) ≤ mI n from fun q => absurd ((mI_le (a := 3) (by omega) (by omega)).1 q) (by omega)), e0, if_neg (mI_ne0 (by omega) (by omega)), e1, e, gi_n (by omega) (by omega), sb, hp n hn, mI_1]
    have ei : (mI (dg z (k / 4) n) = mI (k % 4)) ↔ dg z (k / 4) n = k % 4 := mI_inj (by omega) (by omega)
    have em : ms z (k / 4) (k % 4) (n + 1) = ms z (k / 4) (k % 4) n + if dg z (k / 4) n = k % 4 then 1 else 0 := rfl
    by_cases h : dg z (k / 4) n = k % 4
    · rw [if_pos (ei.2 h)]
      refine ⟨_, rfl, ?_⟩
      rw [em, if_pos h, ← iI_add]; rfl
    · rw [if_neg (fun q => h (ei.1 q))]
      refine ⟨_, rfl, ?_⟩
      rw [em, if_neg h, ← iI_add]; rfl
  · rintro _ rfl
    refine ⟨(iI (ms z (k / 4) (k % 4) 3), mI 3), ?_, rfl⟩
    unfold f_Wm_check_l105
    dsimp only
    rw [if_pos (show (3 : Int32) ≤ mI 3 from (mI_le (a := 3) (by omega) (by omega)).2 (by omega))]
def tot (z : Int) (nd : Nat → Int32) (k : Nat) : Nat := csh z nd (k / 4) + shc z (k / 4) nd (k % 4 - 1)
theorem q_c90 {fu D b : Nat} {z : Int} {nd plan : Nat → Int32} (hfu : 24 < fu) (hD : D ≤ 6) (hnd : Lim 24 3 nd) (hp : ∀ n d, n < 3 → d < D → plan (6 * n + d) = mI (dg z d n)) : ∃ r, iter (f_Wm_check_l90 fu (mI D) nd plan) fu (mI b, mI 0) = some r ∧ r.1 = mI (b + csh z nd D) := by
  have e4 : 4 * mI D = mI (4 * D) := mI_mul 4 D
  refine iter_for (N := 4 * D) (fun k (s : Int32 × Int32) => s = (mI (b + tot z nd k), mI k)) (P := fun (r : Int32 × Int32) => r.1 = mI (b + csh z nd D)) ?_ ?_ fu 0 (mI b, mI 0) (by omega) (by omega) rfl
  · rintro k _ hk rfl
    have e0 : mI k - mI k / 4 * 4 = mI (k % 4) := by
      show mI k - mI k / mI 4 * mI 4 = _
      rw [mI_div (by omega) (by omega), mI_mul, mI_sub (by omega)]
      congr 1
      omega
    unfold f_Wm_check_l90
    dsimp only
    rw [e4, if_neg (show ¬ mI (4 * D) ≤ mI k from fun q => absurd ((mI_le (by omega) (by omega)).1 q) (by omega))]
    by_cases h0 : k % 4 = 0
    · have hr : ∃ r, iter (f_Wm_check_l105 (mI k) plan) fu (mI 0, mI 0) = some r := by
        obtain ⟨r, d1, _⟩ := iter_inv (b := f_Wm_check_l105 (mI k) plan) (fun _ => True) (fun _ => 0) (P := fun _ => True)
          (by
            rintro ⟨s1, s2⟩ _
            refine .inr ?_
            unfold f_Wm_check_l105
            dsimp only
            rw [e0, if_pos (show mI (k % 4) = 0 by rw [h0]; rfl)]
            split <;> exact ⟨_, rfl, trivial⟩)
          fu (mI 0, mI 0) (by omega) trivial
        exact ⟨r, d1⟩
      obtain ⟨r, hr⟩ := hr
      show ∃ a', ((iter _ fu (mI 0, mI 0)).bind _) = _ ∧ _
      rw [hr, sb]
      unfold f_Wm_check_b151 f_Wm_check_b172 f_Wm_check_b173
      rw [e0, if_pos (show mI (k % 4) = 0 by rw [h0]; rfl), mI_1]
      refine ⟨_, rfl, ?_⟩
      show (mI (b + tot z nd k) + mI 0, _) = _
      rw [mI_add]
      congr 2
      unfold tot
      rw [show (k + 1) / 4 = k / 4 by omega, show (k + 1) % 4 - 1 = 0 by omega, show k % 4 - 1 = 0 by omega]
      rfl
    · obtain ⟨r, g1, g2⟩ := q_c105 (fu := fu) (z := z) (by omega) (by omega : k < 24) h0 (fun n hn => hp n (k / 4) hn (by omega))
      show ∃ a', ((iter _ fu (iI 0, mI 0)).bind _) = _ ∧ _
      rw [g1, sb, g2]
      unfold f_Wm_check_b151 f_Wm_check_b172 f_Wm_check_b173
      rw [e0, if_neg (mI_ne0 (by omega) (by omega)), gi_n (by omega) (by omega), sb, mI_1]
      have hm := @ms_bd z (k / 4) (k % 4) 3
      have hn := hnd k (by omega)
      have el : (nd k ≤ iI (ms z (k / 4) (k % 4) 3)) ↔ (nd k).toInt ≤ ms z (k / 4) (k % 4) 3 := by
        rw [Int32.le_iff_toInt_le, iI_toInt (by omega) (by omega)]
      have et : tot z nd (k + 1) = tot z nd k + if 0 < (nd k).toInt - ms z (k / 4) (k % 4) 3 then 1 else 0 := by
        unfold tot
        have hk4 : 4 * (k / 4) + (k % 4 - 1 + 1) = k := by omega
        have hs : shc z (k / 4) nd (k % 4 - 1 + 1) = shc z (k / 4) nd (k % 4 - 1) + if 0 < (nd k).toInt - ms z (k / 4) (k % 4) 3 then 1 else 0 := by
          conv => lhs; unfold shc
          rw [hk4, show k % 4 - 1 + 1 = k % 4 by omega]
        by_cases h3 : k % 4 = 3
        · rw [show (k + 1) / 4 = k / 4 + 1 by omega, show (k + 1) % 4 - 1 = 0 by omega]
          show csh z nd (k / 4) + shc z (k / 4) nd 3 + 0 = _
          rw [show k % 4 - 1 + 1 = 3 by omega] at hs
          rw [hs]
          omega
        · rw [show (k + 1) / 4 = k / 4 by omega, show (k + 1) % 4 - 1 = k % 4 - 1 + 1 by omega, hs]
          omega
      by_cases h : (nd k).toInt ≤ ms z (k / 4) (k % 4) 3
      · rw [if_pos (el.2 h)]
        refine ⟨_, rfl, ?_⟩
        show (mI (b + tot z nd k) + mI 0, _) = _
        rw [mI_add, et, if_neg (by omega)]; rfl
      · rw [if_neg (fun q => h (el.1 q))]
        refine ⟨_, rfl, ?_⟩
        show (mI (b + tot z nd k) + mI 1, _) = _
        rw [mI_add, et, if_pos (by omega)]; rfl
  · rintro _ rfl
    refine ⟨(mI (b + tot z nd (4 * D)), mI (4 * D)), ?_, ?_⟩
    · unfold f_Wm_check_l90
      dsimp only
      rw [e4, if_pos (show mI (4 * D) ≤ mI (4 * D) from (mI_le (by omega) (by omega)).2 (by omega))]
    · show mI _ = mI _
      congr 2
      unfold tot
      rw [show 4 * D / 4 = D by omega, show 4 * D % 4 - 1 = 0 by omega]
      rfl
theorem ag_check {fu D : Nat} {lgN sB wB : Nat → Nat} {fbN : Nat → Int32} {fxN scN pcN : Nat → Nat → Int32} {nd fbA lgA bs bw ndM co pa fi : Nat → Int32} {plan : Nat → Int32} {pl : Int64} {isP l0 p0 : Int32} (hfu : 4096 < fu) (W : Wd D lgN sB wB fbN fxN scN pcN nd fbA lgA bs bw ndM co pa fi) (hP : PlR D pl isP plan) :
    ∃ v l1 p1, f_Wr_check fu pl (mI D) (mI 0) (fbN 0) (mI (lgN 0)) (mI (so (sB 0) (wB 0))) (mI D) (fxN 0) (mI 1) (fbN 1) (mI (lgN 1)) (mI (so (sB 1) (wB 1))) (mI D) (fxN 1) (mI 2) (fbN 2) (mI (lgN 2)) (mI (so (sB 2) (wB 2))) (mI D) (fxN 2) nd = some v ∧ f_Wm_check fu (mI D) isP l0 p0 fbA lgA bs bw ndM co pa fi plan = some (v, 0, l1, p1) := by
  have hD := W.hD
  rcases hP with ⟨rfl, rfl⟩ | ⟨rfl, hP⟩
  · refine ⟨-1, l0, p0, ?_, ?_⟩
    · unfold f_Wr_check
      rw [NO_jJ, if_pos rfl]
    · unfold f_Wm_check
      rw [if_pos rfl]
  · obtain ⟨wt, c, p1, p2, p3, p4, p5⟩ := hP
    have hb := code_bd hD p3
    have hpl : ∀ n d, n < 3 → d < D → plan (6 * n + d) = mI (dg (wt * 2 ^ 36 + (c : Int) * 4 ^ (18 - 3 * D)) d n) := by
      intro n d hn hd
      rw [p5 n d hn hd, dg_at hd hD hn]
    generalize hz : wt * 2 ^ 36 + (c : Int) * 4 ^ (18 - 3 * D) = z at *
    have hz0 : 0 ≤ z ∧ z < 2 ^ 61 := by omega
    rw [p4, p_check hfu W hz0.1 hz0.2]
    have lcl : ∀ n d, lc z n d < 4 ^ d := by
      intro n d
      induction d with
      | zero => exact Nat.one_pos
      | succ d ih =>
        have := dg_lt z d n
        show 4 * lc z n d + dg z d n < 4 ^ (d + 1)
        rw [Nat.pow_succ]
        omega
    let bs3 : Nat → Nat := fun n => match n with
      | 0 => 0
      | 1 => nb (lok D lgN sB wB fbN fxN 0 (lc z 0 D))
      | 2 => nb (lok D lgN sB wB fbN fxN 0 (lc z 0 D)) + nb (lok D lgN sB wB fbN fxN 1 (lc z 1 D))
      | _ => nb (lok D lgN sB wB fbN fxN 0 (lc z 0 D)) + nb (lok D lgN sB wB fbN fxN 1 (lc z 1 D)) + nb (lok D lgN sB wB fbN fxN 2 (lc z 2 D))
    have hbs : ∀ n, n < 3 → bs3 (n + 1) = bs3 n + nb (lok D lgN sB wB fbN fxN n (lc z n D)) := by
      intro n hn
      rcases n3 hn with rfl | rfl | rfl
      · show nb _ = 0 + nb _; omega
      · rfl
      · rfl
    obtain ⟨r, g1, g2⟩ := iter_for (N := 3) (b := f_Wm_check_l18 fu (mI D) fbA lgA bs bw co pa fi plan) (fun n (s : Int32 × Int32 × Int32 × Int32) => s.1 = mI (bs3 n) ∧ s.2.1 = mI n) (P := fun r => r.1 = mI (bs3 3))
      (by
        rintro n ⟨s1, s2, l, p⟩ hn ⟨h1, h2⟩
        dsimp only at h1 h2
        subst h1 h2
        obtain ⟨r28, a1, a2⟩ := q_c28 (fu := fu) (z := z) (plan := plan) (by omega) hD hn (fun d hd => hpl n d hn hd)
        unfold f_Wm_check_l18 f_Wm_check_b80
        dsimp only
        rw [if_neg (show ¬ (3 : Int32) ≤ mI n from fun q => absurd ((mI_le (a := 3) (by omega) (by omega)).1 q) (by omega))]
        show ∃ a', ((iter _ fu (mI 0, mI 0)).bind _) = _ ∧ _
        rw [a1, sb, a2, p_walkR (by omega) hn hD (lcl n D) (W.sB n hn) (W.w4 hn) (W.lg n hn) (W.bs n hn) (W.bw n hn) (W.la n hn), sb, ok_ref W hn]
        dsimp only
        rw [hbs n hn]
        cases lok D lgN sB wB fbN fxN n (lc z n D) with
        | false =>
          rw [if_pos (show bI false = 0 from rfl), mI_1]
          refine ⟨_, rfl, ?_, rfl⟩
          show mI (bs3 n) + mI 100 = _
          rw [mI_add]; rfl
        | true =>
          rw [if_neg (show ¬ bI true = 0 by decide), mI_1]
          refine ⟨_, rfl, ?_, rfl⟩
          show mI (bs3 n) + mI 0 = _
          rw [mI_add]; rfl)
      (by
        rintro ⟨s1, s2, l, p⟩ ⟨h1, h2⟩
        dsimp only at h1 h2
        subst h1 h2
        refine ⟨(mI (bs3 3), mI 3, l, p), ?_, rfl⟩
        unfold f_Wm_check_l18
        dsimp only
        rw [if_pos (show (3 : Int32) ≤ mI 3 from (mI_le (a := 3) (by omega) (by omega)).2 (by omega))])
      fu 0 (mI 0, mI 0, l0, p0) (by omega) (by omega) ⟨rfl, rfl⟩
    obtain ⟨r90, c1, c2⟩ := q_c90 (fu := fu) (b := bs3 3) (z := z) (plan := plan) (by omega) hD W.lnd hpl
    refine ⟨_, r.2.2.1, r.2.2.2, rfl, ?_⟩
    unfold f_Wm_check
    rw [if_neg (by decide)]
    show (iter _ fu (mI 0, mI 0, l0, p0)).bind _ = _
    rw [g1, sb, g2]
    show (iter _ fu (mI (bs3 3), mI 0)).bind _ = _
    rw [c1, sb, c2, csh_nd W.nd D hD]
    rfl
