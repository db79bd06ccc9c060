/-! the reference's find: the way forward -/
theorem q_f67 {fu D : Nat} {lgN sB wB : Nat → Nat} {fbA lgA bs bw fi co pa pl nd rest af we cv fd : Nat → Int32} {rep : Int32} {V : Int} (hfu : 156 < fu) (H : RH D lgN sB wB lgA bs bw nd co pa) (hr : RO (rS lgN fbA fi nd) (rV rep pl co pa) lgN (r0 sB wB) D 0 rest) (hV : V = rs (rS lgN fbA fi nd) (rV rep pl co pa) D D (r0 sB wB)) (hVF : V < FAR) :
    ∃ r, iter (f_Wm_find_l67 fu (iI V) (mI D) rep fbA lgA nd co pa fi pl rest) fu (mI (r0 sB wB), mI 0, af, we, cv, fd) = some r ∧ ∃ c T, GI (rS lgN fbA fi nd) (rV rep pl co pa) (r0 sB wB) D V D c T ∧ Fgd D c r.2.2.2.2.2 := by
  have hD := H.hD
  have hF : FAR = 1000000000 := rfl
  have hW : ∀ d t k, d < D → k < 64 → 0 ≤ rV rep pl co pa d t k ∧ rV rep pl co pa d t k ≤ 600000 := fun d t k hd hk => rV_bd H.hco H.hpa (by omega) hk
  have ht0 : r0 sB wB < 2197 := by
    unfold r0
    have q0 := sr_lt (H.h3 0 (by omega)) (H.h4 0 (by omega))
    have q1 := sr_lt (H.h3 1 (by omega)) (H.h4 1 (by omega))
    have q2 := sr_lt (H.h3 2 (by omega)) (H.h4 2 (by omega))
    omega
  have hV0 : 0 ≤ V := by
    have := (rs_all (S := rS lgN fbA fi nd) hD hW D (Nat.le_refl D) (r0 sB wB)).1
    rw [← hV] at this
    omega
  generalize r0 sB wB = t0 at *
  refine iter_for (N := D) (fun d (s : Int32 × Int32 × (Nat → Int32) × (Nat → Int32) × (Nat → Int32) × (Nat → Int32)) => ∃ u c, s.1 = mI u ∧ s.2.1 = mI d ∧ u < 2197 ∧ ask lgN t0 d u = true ∧ GI (rS lgN fbA fi nd) (rV rep pl co pa) t0 D V d c u ∧ Fgd d c s.2.2.2.2.2) (P := fun (r : Int32 × Int32 × (Nat → Int32) × (Nat → Int32) × (Nat → Int32) × (Nat → Int32)) => ∃ c T, GI (rS lgN fbA fi nd) (rV rep pl co pa) t0 D V D c T ∧ Fgd D c r.2.2.2.2.2) ?_ ?_ fu 0 (mI t0, mI 0, af, we, cv, fd) (by omega) (by omega) ⟨t0, 0, rfl, rfl, ht0, by unfold ask; simp, by rw [hV]; exact gi_zero, fun n e _ he => by omega⟩
  · rintro d ⟨s1, s2, af, we, cv, fd⟩ hd ⟨u, c, h1, h2, hu, ha, hg, hfd⟩
    dsimp only at h1 h2 hfd
    subst h1 h2
    obtain ⟨af', we', cv', g1, hp⟩ := p_prepare (rep := rep) (fbA := fbA) (co := co) (pa := pa) (fi := fi) (pl := pl) (af := af) (we := we) (cv := cv) hfu (by omega : d < 6) H.hlg H.hla H.hnd
    have hL := lh_of (a := u / 169) (b := u / 13 % 13) (c := u % 13) hD hd (by omega) (by omega) (by omega) H.hlg H.hco H.hpa hp (fun e u x1 x2 x3 x4 => hr e u (by omega) x2 x3 x4)
    rw [tri_u] at hL
    obtain ⟨hn, hex⟩ := gi_first hD hd hW hVF hg
    have hre := hr d u (by omega) (by omega) hu (.inr ha)
    have hb := (rs_all (S := rS lgN fbA fi nd) hD hW (D - d) (by omega) u).1
    have hb' : 0 ≤ rs (rS lgN fbA fi nd) (rV rep pl co pa) D (D - d) u ∧ rs (rS lgN fbA fi nd) (rV rep pl co pa) D (D - d) u ≤ 4000000 := by
      have : (D - d : Nat) ≤ 6 := by omega
      rcases hb with hb | hb
      · exact absurd hb hn
      · omega
    obtain ⟨k, k1, hk, k2, k3⟩ := q_l89 (fu := fu) (by omega) hL hu hn hb' hre hex
    obtain ⟨t', t1, t2⟩ := gi_step hD hd hW hk hVF hg k2 k3
    obtain ⟨_, a', b', c', x1, x2, x3, x4⟩ := st_some t1
    have hi : k / 16 < 4 := by omega
    have hj : k / 4 % 4 < 4 := by omega
    have hl : k % 4 < 4 := by omega
    obtain ⟨a1, a2, _⟩ := rd_lt (H.hlg 0 (by omega)) hi x1
    obtain ⟨b1, b2, _⟩ := rd_lt (H.hlg 1 (by omega)) hj x2
    obtain ⟨c1, c2, _⟩ := rd_lt (H.hlg 2 (by omega)) hl x3
    have e0 : 4 * (mI u / 169) + mI k / 16 = mI (4 * (u / 169) + k / 16) := by
      show mI 4 * (mI u / mI 169) + mI k / mI 16 = _
      rw [mI_div (by omega) (by omega), mI_div (by omega) (by omega), mI_mul, mI_add]
    have e1 : (52 + (4 * ((mI u / 13) - (mI u / 13) / 13 * 13))) + ((mI k / 4) - (mI k / 4) / 4 * 4) = mI (52 + 4 * (u / 13 % 13) + k / 4 % 4) := by
      show (mI 52 + (mI 4 * ((mI u / mI 13) - (mI u / mI 13) / mI 13 * mI 13))) + ((mI k / mI 4) - (mI k / mI 4) / mI 4 * mI 4) = _
      rw [mI_div (by omega) (by omega), mI_div (by omega) (by omega), mI_div (by omega) (by omega), mI_div (by omega) (by omega), mI_mul, mI_mul, mI_sub (by omega), mI_sub (by omega), mI_mul, mI_add, mI_add]
      congr 1
      omega
    have e2 : (104 + (4 * (mI u - mI u / 13 * 13))) + (mI k - mI k / 4 * 4) = mI (104 + 4 * (u % 13) + k % 4) := by
      show (mI 104 + (mI 4 * (mI u - mI u / mI 13 * mI 13))) + (mI k - mI k / mI 4 * mI 4) = _
      rw [mI_div (by omega) (by omega), mI_div (by omega) (by omega), mI_mul, mI_mul, mI_sub (by omega), mI_sub (by omega), mI_mul, mI_add, mI_add]
      congr 1
      omega
    have e3 : mI k / 16 = mI (k / 16) := mI_div (b := 16) (by omega) (by omega)
    have e4 : (mI k / 4) - (mI k / 4) / 4 * 4 = mI (k / 4 % 4) := by
      show (mI k / mI 4) - (mI k / mI 4) / mI 4 * mI 4 = _
      rw [mI_div (by omega) (by omega), mI_div (by omega) (by omega), mI_mul, mI_sub (by omega)]
      congr 1
      omega
    have e5 : mI k - mI k / 4 * 4 = mI (k % 4) := by
      show mI k - mI k / mI 4 * mI 4 = _
      rw [mI_div (by omega) (by omega), mI_mul, mI_sub (by omega)]
      congr 1
      omega
    have e6 : 6 + mI d = mI (6 + d) := mI_add 6 d
    have e7 : 12 + mI d = mI (12 + d) := mI_add 12 d
    have g0 : gi 156 af' (mI (4 * (u / 169) + k / 16)) = some (mI a') := by rw [gi_n (by omega) (by omega), hL.a0 _ hi, x1]; rfl
    have g2 : gi 156 af' (mI (52 + 4 * (u / 13 % 13) + k / 4 % 4)) = some (mI b') := by rw [gi_n (by omega) (by omega), hL.a1 _ hj, x2]; rfl
    have g3 : gi 156 af' (mI (104 + 4 * (u % 13) + k % 4)) = some (mI c') := by rw [gi_n (by omega) (by omega), hL.a2 _ hl, x3]; rfl
    unfold f_Wm_find_l67
    dsimp only
    rw [if_neg (show ¬ mI D ≤ mI d from fun q => absurd ((mI_le (by omega) (by omega)).1 q) (by omega)), FAR_iI, if_neg (show ¬ iI FAR ≤ iI V from fun q => absurd ((iI_le (by omega) (by omega) (by omega) (by omega)).1 q) (by omega)), g1, sb]
    show ∃ a', ((iter (f_Wm_find_l89 (mI u) (mI d) rest af' we' cv') fu (mI 0)).bind _) = _ ∧ _
    rw [k1, sb, e0, e1, e2, e3, e4, e5, e6, e7, g0, g2, g3, si_n (by omega) (by omega), sb, si_n (by omega) (by omega), sb, si_n (by omega) (by omega), sb, sb, sb, sb, mI_1]
    refine ⟨_, rfl, t', 64 * c + k, ?_, rfl, by omega, ?_, t2, fd_step (by omega) hk hfd⟩
    · show ((mI 169 * mI a') + (mI 13 * mI b')) + mI c' = _
      rw [mI_mul, mI_mul, mI_add, mI_add, x4]
    · obtain ⟨y1, y2, y3⟩ := st_tri a1 b1 c1
      unfold ask
      rw [if_neg (by omega), x4, y1, y2, y3, a2, b2, c2]; rfl
  · rintro ⟨s1, s2, af, we, cv, fd⟩ ⟨u, c, h1, h2, hu, ha, hg, hfd⟩
    dsimp only at h1 h2 hfd
    subst h1 h2
    refine ⟨(mI u, mI D, af, we, cv, fd), ?_, c, u, hg, hfd⟩
    unfold f_Wm_find_l67
    dsimp only
    rw [if_pos (show mI D ≤ mI D from (mI_le (by omega) (by omega)).2 (by omega))]
/-- the reference's find: the first code of least weight, or none -/
theorem p_find {fu D : Nat} {lgN sB wB : Nat → Nat} {fbA lgA bs bw fi co pa pl nd rest af we cv fd : Nat → Int32} {rep : Int32} (hfu : 2197 < fu) (hD1 : 1 ≤ D) (H : RH D lgN sB wB lgA bs bw nd co pa) :
    ∃ V rest' af' we' cv' fd', f_Wm_find fu (mI D) rep fbA lgA bs bw nd co pa fi pl rest af we cv fd = some (iI V, rest', af', we', cv', fd') ∧ ((V = FAR ∧ ∀ c, rT (rS lgN fbA fi nd) (r0 sB wB) D c = none) ∨ (0 ≤ V ∧ V ≤ 3600000 ∧ ∃ c T, rT (rS lgN fbA fi nd) (r0 sB wB) D c = some T ∧ rW (rS lgN fbA fi nd) (rV rep pl co pa) (r0 sB wB) D c = V ∧ Fgd D c fd' ∧ ∀ c' T', rT (rS lgN fbA fi nd) (r0 sB wB) D c' = some T' → V ≤ rW (rS lgN fbA fi nd) (rV rep pl co pa) (r0 sB wB) D c' ∧ (rW (rS lgN fbA fi nd) (rV rep pl co pa) (r0 sB wB) D c' = V → c ≤ c'))) := by
  have hD := H.hD
  have hF : FAR = 1000000000 := rfl
  have hW : ∀ d t k, d < D → k < 64 → 0 ≤ rV rep pl co pa d t k ∧ rV rep pl co pa d t k ≤ 600000 := fun d t k hd hk => rV_bd H.hco H.hpa (by omega) hk
  have ht0 : r0 sB wB < 2197 := by
    unfold r0
    have q0 := sr_lt (H.h3 0 (by omega)) (H.h4 0 (by omega))
    have q1 := sr_lt (H.h3 1 (by omega)) (H.h4 1 (by omega))
    have q2 := sr_lt (H.h3 2 (by omega)) (H.h4 2 (by omega))
    omega
  have low : ∀ c' T', rT (rS lgN fbA fi nd) (r0 sB wB) D c' = some T' → rs (rS lgN fbA fi nd) (rV rep pl co pa) D D (r0 sB wB) ≠ FAR ∧ rs (rS lgN fbA fi nd) (rV rep pl co pa) D D (r0 sB wB) ≤ rW (rS lgN fbA fi nd) (rV rep pl co pa) (r0 sB wB) D c' := by
    intro c' T' hT
    obtain ⟨t, l1, l2, l3⟩ := rs_low (S := rS lgN fbA fi nd) hD hW hT D (Nat.le_refl D)
    rw [Nat.sub_self] at l1 l3
    have : t = r0 sB wB := by
      unfold rT at l1
      split at l1
      · exact (Option.some.inj l1).symm
      · cases l1
    subst this
    have e0 : rW (rS lgN fbA fi nd) (rV rep pl co pa) (r0 sB wB) 0 (c' / 64 ^ D) = 0 := rfl
    rw [e0] at l3
    exact ⟨l2, by omega⟩
  unfold f_Wm_find
  obtain ⟨r2, a1, a2⟩ := q_f2 (rest := rest) hfu hD
  show ∃ V rest' af' we' cv' fd', ((iter _ fu (mI 0, rest)).bind _) = _ ∧ _
  rw [a1, sb]
  have hR0 : RO (rS lgN fbA fi nd) (rV rep pl co pa) lgN (r0 sB wB) D D r2.2 := by
    intro e u x1 x2 x3 _
    have : e = D := by omega
    subst this
    rw [a2 u x3, Nat.sub_self]
    rfl
  obtain ⟨r3, b1, b2⟩ := q_f38 (af := af) (we := we) (cv := cv) (by omega : 156 < fu) H hR0
  have eD : mI D - 1 = iI ((D : Int) - 1) := by
    show mI D - iI 1 = _
    rw [mI_iI, iI_sub]
  rw [eD, b1, sb]
  have hst := p_startState (fu := fu) (by omega) H.h1 H.h2 H.h3
  rw [hst, sb]
  have hv := b2 0 (r0 sB wB) (by omega) (by omega) ht0 (.inr (by unfold ask; simp))
  rw [Nat.mul_zero, Nat.zero_add, Nat.sub_zero] at hv
  rw [gi_n (show 169 * sr (sB 0) (wB 0) + 13 * sr (sB 1) (wB 1) + sr (sB 2) (wB 2) < 15379 from Nat.lt_of_lt_of_le ht0 (by omega)) (by omega), sb]
  have hv' : r3.2.1 (169 * sr (sB 0) (wB 0) + 13 * sr (sB 1) (wB 1) + sr (sB 2) (wB 2)) = iI (rs (rS lgN fbA fi nd) (rV rep pl co pa) D D (r0 sB wB)) := hv
  rw [hv']
  have hb := (rs_all (S := rS lgN fbA fi nd) hD hW D (Nat.le_refl D) (r0 sB wB)).1
  by_cases hV : rs (rS lgN fbA fi nd) (rV rep pl co pa) D D (r0 sB wB) = FAR
  · rw [hV]
    obtain ⟨r, d1⟩ : ∃ r, iter (f_Wm_find_l67 fu (iI FAR) (mI D) rep fbA lgA nd co pa fi pl r3.2.1) fu (mI (r0 sB wB), mI 0, r3.2.2.1, r3.2.2.2.1, r3.2.2.2.2, fd) = some r := by
      obtain ⟨r, d1, _⟩ := iter_inv (b := f_Wm_find_l67 fu (iI FAR) (mI D) rep fbA lgA nd co pa fi pl r3.2.1) (fun _ => True) (fun _ => 0) (P := fun _ => True)
        (by
          rintro ⟨s1, s2, af, we, cv, fd⟩ _
          refine .inr ?_
          unfold f_Wm_find_l67
          dsimp only
          rw [FAR_iI, if_pos (show iI FAR ≤ iI FAR from (iI_le (by omega) (by omega) (by omega) (by omega)).2 (by omega))]
          split
          · exact ⟨_, rfl, trivial⟩
          · exact ⟨_, rfl, trivial⟩)
        fu (mI (r0 sB wB), mI 0, r3.2.2.1, r3.2.2.2.1, r3.2.2.2.2, fd) (by omega) trivial
      exact ⟨r, d1⟩
    show ∃ V rest' af' we' cv' fd', ((iter _ fu (mI (r0 sB wB), mI 0, r3.2.2.1, r3.2.2.2.1, r3.2.2.2.2, fd)).bind _) = _ ∧ _
    rw [d1, sb]
    refine ⟨FAR, _, _, _, _, _, rfl, .inl ⟨rfl, fun c => ?_⟩⟩
    cases hT : rT (rS lgN fbA fi nd) (r0 sB wB) D c with
    | none => rfl
    | some T => exact absurd hV (low c T hT).1
  · have hb' : 0 ≤ rs (rS lgN fbA fi nd) (rV rep pl co pa) D D (r0 sB wB) ∧ rs (rS lgN fbA fi nd) (rV rep pl co pa) D D (r0 sB wB) ≤ 3600000 := by omega
    obtain ⟨r, d1, c, T, d2, d3⟩ := q_f67 (af := r3.2.2.1) (we := r3.2.2.2.1) (cv := r3.2.2.2.2) (fd := fd) (by omega : 156 < fu) H b2 rfl (by omega)
    show ∃ V rest' af' we' cv' fd', ((iter _ fu (mI (r0 sB wB), mI 0, r3.2.2.1, r3.2.2.2.1, r3.2.2.2.2, fd)).bind _) = _ ∧ _
    rw [d1, sb]
    obtain ⟨i1, i0, i2, i3⟩ := d2
    rw [Nat.sub_self] at i2 i3
    have e0 : rs (rS lgN fbA fi nd) (rV rep pl co pa) D 0 T = 0 := rfl
    rw [e0] at i2
    refine ⟨_, _, _, _, _, _, rfl, .inr ⟨hb'.1, hb'.2, c, T, i1, by omega, d3, fun c' T' hT => ⟨(low c' T' hT).2, fun q => ?_⟩⟩⟩
    have := i3 c' T' hT q
    rw [Nat.pow_zero, Nat.div_one] at this
    exact this
