/-! class and reference agree on the best roster -/
theorem tr_w_n {D d n t s : Nat} {fbN : Nat → Int32} {fxN scN pcN : Nat → Nat → Int32} {ch : Nat → Nat → Bool} {fbA fi co pa pl : Nat → Int32} {rep : Int32} (H : CR D fbN fxN scN pcN ch fbA fi co pa pl rep) (hD : D ≤ 6) (hd : d < D) (hn : n < 3) (hs : s < 4) : tr_w scN pcN ch (3 * d + n) t s = (co (24 * n + (4 * d + s))).toInt + (pa (16 * n + (4 * sh (st3 t n) + s))).toInt + if chR rep pl n d s = true then 4096 else 0 := by
  unfold tr_w
  have := sh_lt (st3 t n)
  rw [show (3 * d + n) % 3 = n by omega, show (3 * d + n) / 3 = d by omega, H.sc n _ hn (by omega), H.pc n _ hn (by omega), H.ch n d s hn hd hs]
theorem rB_n {d n u s : Nat} {co pa pl : Nat → Int32} {rep : Int32} (hco : Lim 72 99 co) (hpa : Lim 48 99 pa) (hd : d < 6) (hn : n < 3) (hs : s < 4) : rB rep pl co pa n d u s = (co (24 * n + (4 * d + s))).toInt + (pa (16 * n + (4 * ra (st3 u n) + s))).toInt + if chR rep pl n d s = true then 100000 else 0 := (wR_bd hco hpa hn hd (ra_lt (st_lt _ _)) hs).1
def PC (v w : Int) (d : Nat) (nc : Prop) : Prop := ∃ P C : Int, v = P + 4096 * C ∧ w = P + 100000 * C ∧ 0 ≤ P ∧ P ≤ 594 * d ∧ 0 ≤ C ∧ C ≤ 3 * d ∧ (nc → C = 0)
theorem rn_0 {D lg s w : Nat} (hs : s < 4) (h : (s = 0 ∧ w = 0) ∨ (s ≠ 0 ∧ 1 ≤ w ∧ w ≤ 4)) : Rn D lg 0 (so s w) (sr s w) := by
  rcases h with ⟨rfl, rfl⟩ | ⟨h0, h1, h4⟩
  · exact ⟨rfl, Nat.le_refl _, .inl rfl⟩
  · have e : sr s w = 4 * (s - 1) + w := by unfold sr; rw [if_neg h0]
    obtain ⟨q1, q2⟩ := rr_4 h0 h1 h4
    unfold Rn
    rw [e, q1, q2, sh_so hs h1, wk_so hs h0 h1]
    exact ⟨rfl, Nat.le_refl _, .inl rfl⟩
theorem sim_all {D : Nat} {lgN sB wB : Nat → Nat} {fbN : Nat → Int32} {fxN scN pcN : Nat → Nat → Int32} {ch : Nat → Nat → Bool} {fbA fi co pa pl nd : Nat → Int32} {rep : Int32} (hD : D ≤ 6) (hlg : ∀ n, n < 3 → lgN n ≤ 4) (hsB : ∀ n, n < 3 → sB n < 4) (hwB : ∀ n, n < 3 → (sB n = 0 ∧ wB n = 0) ∨ (sB n ≠ 0 ∧ 1 ≤ wB n ∧ wB n ≤ 4)) (hco : Lim 72 99 co) (hpa : Lim 48 99 pa) (H : CR D fbN fxN scN pcN ch fbA fi co pa pl rep) : ∀ d, d ≤ D → ∀ c,
    (dp_T (tr_d D lgN fbN fxN nd) (169 * so (sB 0) (wB 0) + 13 * so (sB 1) (wB 1) + so (sB 2) (wB 2)) (3 * d) c = none ∧ rT (rS lgN fbA fi nd) (r0 sB wB) d c = none) ∨ ∃ t u, dp_T (tr_d D lgN fbN fxN nd) (169 * so (sB 0) (wB 0) + 13 * so (sB 1) (wB 1) + so (sB 2) (wB 2)) (3 * d) c = some t ∧ rT (rS lgN fbA fi nd) (r0 sB wB) d c = some u ∧ t < 2197 ∧ (∀ n, n < 3 → Rn D (lgN n) d (st3 t n) (st3 u n)) ∧ PC (dp_K (tr_d D lgN fbN fxN nd) (tr_w scN pcN ch) (169 * so (sB 0) (wB 0) + 13 * so (sB 1) (wB 1) + so (sB 2) (wB 2)) (3 * d) c) (rW (rS lgN fbA fi nd) (rV rep pl co pa) (r0 sB wB) d c) d (∀ n d s, chR rep pl n d s = false) := by
  have hso : ∀ n, n < 3 → so (sB n) (wB n) < 13 := fun n hn => so_lt (hsB n hn) (by have := hwB n hn; omega)
  have hsr : ∀ n, n < 3 → sr (sB n) (wB n) < 13 := fun n hn => sr_lt (hsB n hn) (by have := hwB n hn; omega)
  obtain ⟨c0, c1, c2⟩ := st_tri (hso 0 (by omega)) (hso 1 (by omega)) (hso 2 (by omega))
  obtain ⟨d0, d1, d2⟩ := st_tri (hsr 0 (by omega)) (hsr 1 (by omega)) (hsr 2 (by omega))
  have htc : 169 * so (sB 0) (wB 0) + 13 * so (sB 1) (wB 1) + so (sB 2) (wB 2) < 2197 := by
    have := hso 0 (by omega)
    have := hso 1 (by omega)
    have := hso 2 (by omega)
    omega
  have hR0 : ∀ n, n < 3 → Rn D (lgN n) 0 (st3 (169 * so (sB 0) (wB 0) + 13 * so (sB 1) (wB 1) + so (sB 2) (wB 2)) n) (st3 (r0 sB wB) n) := by
    intro n hn
    unfold r0
    rcases n3 hn with rfl | rfl | rfl
    · rw [c0, d0]; exact rn_0 (hsB 0 hn) (hwB 0 hn)
    · rw [c1, d1]; exact rn_0 (hsB 1 hn) (hwB 1 hn)
    · rw [c2, d2]; exact rn_0 (hsB 2 hn) (hwB 2 hn)
  generalize 169 * so (sB 0) (wB 0) + 13 * so (sB 1) (wB 1) + so (sB 2) (wB 2) = tc at *
  generalize r0 sB wB = tr at *
  intro d
  induction d with
  | zero =>
    intro _ c
    by_cases h : c = 0
    · subst h
      exact .inr ⟨tc, tr, rfl, rfl, htc, hR0, 0, 0, rfl, rfl, by omega, by omega, by omega, by omega, fun _ => rfl⟩
    · refine .inl ⟨?_, ?_⟩
      · show (if c = 0 then some tc else none) = none
        rw [if_neg h]
      · show (if c = 0 then some tr else none) = none
        rw [if_neg h]
  | succ d ih =>
    intro hd c
    have eR : rT (rS lgN fbA fi nd) tr (d + 1) c = (rT (rS lgN fbA fi nd) tr d (c / 64)).bind fun t => rS lgN fbA fi nd d t (c % 64) := rfl
    rw [dpT3, eR]
    rcases ih (by omega) (c / 64) with ⟨h1, h2⟩ | ⟨t, u, h1, h2, h3, h4, P, C, p1, p2, p3, p4, p5, p6, p7⟩
    · rw [h1, h2]; exact .inl ⟨rfl, rfl⟩
    · rw [h1, h2, sb, sb]
      have hk : c % 64 < 64 := Nat.mod_lt _ (by omega)
      have k0 : c % 64 / 16 = c / 16 % 4 := by omega
      have k1 : c % 64 / 4 % 4 = c / 4 % 4 := by omega
      have k2 : c % 64 % 4 = c % 4 := by omega
      have hs := sim_day (nd := nd) (t := t) (u := u) (k := c % 64) hD (by omega : d < D) hlg H h3 hk h4
      rw [k0, k1, k2] at hs
      rcases hs with ⟨a1, a2⟩ | ⟨t1, t2, t', u', a1, a2, a3, a4, a5, a6, a7, a8, a9⟩
      · exact .inl ⟨a1, a2⟩
      · right
        refine ⟨t', u', by rw [a1, sb, a2, sb, a3], a4, a5, a7, ?_⟩
        rw [dpK3 h1 a1 a2, rW_at h2]
        have i0 : c / 16 % 4 < 4 := by omega
        have i1 : c / 4 % 4 < 4 := by omega
        have i2 : c % 4 < 4 := by omega
        have w0 := tr_w_n (t := t) H hD (by omega : d < D) (by omega : 0 < 3) i0
        have w1 := tr_w_n (t := t1) H hD (by omega : d < D) (by omega : 1 < 3) i1
        have w2 := tr_w_n (t := t2) H hD (by omega : d < D) (by omega : 2 < 3) i2
        rw [a8] at w1
        rw [a9] at w2
        have v0 := rB_n (rep := rep) (pl := pl) (u := u) hco hpa (by omega : d < 6) (by omega : 0 < 3) i0
        have v1 := rB_n (rep := rep) (pl := pl) (u := u) hco hpa (by omega : d < 6) (by omega : 1 < 3) i1
        have v2 := rB_n (rep := rep) (pl := pl) (u := u) hco hpa (by omega : d < 6) (by omega : 2 < 3) i2
        rw [(h4 0 (by omega)).1] at v0
        rw [(h4 1 (by omega)).1] at v1
        rw [(h4 2 (by omega)).1] at v2
        have l0 := sh_lt (st3 t 0)
        have l1 := sh_lt (st3 t 1)
        have l2 := sh_lt (st3 t 2)
        have b0 := hco (24 * 0 + (4 * d + c / 16 % 4)) (by omega)
        have b1 := hco (24 * 1 + (4 * d + c / 4 % 4)) (by omega)
        have b2 := hco (24 * 2 + (4 * d + c % 4)) (by omega)
        have b3 := hpa (16 * 0 + (4 * sh (st3 t 0) + c / 16 % 4)) (by omega)
        have b4 := hpa (16 * 1 + (4 * sh (st3 t 1) + c / 4 % 4)) (by omega)
        have b5 := hpa (16 * 2 + (4 * sh (st3 t 2) + c % 4)) (by omega)
        have ev : rV rep pl co pa d u (c % 64) = rB rep pl co pa 0 d u (c / 16 % 4) + rB rep pl co pa 1 d u (c / 4 % 4) + rB rep pl co pa 2 d u (c % 4) := by
          unfold rV w64
          rw [k0, k1, k2]
        rw [ev, v0, v1, v2]
        have w0 : tr_w scN pcN ch (3 * d) t (c / 16 % 4) = _ := w0
        rw [w0, w1, w2, p1, p2]
        generalize (co (24 * 0 + (4 * d + c / 16 % 4))).toInt = x0 at *
        generalize (co (24 * 1 + (4 * d + c / 4 % 4))).toInt = x1 at *
        generalize (co (24 * 2 + (4 * d + c % 4))).toInt = x2 at *
        generalize (pa (16 * 0 + (4 * sh (st3 t 0) + c / 16 % 4))).toInt = y0 at *
        generalize (pa (16 * 1 + (4 * sh (st3 t 1) + c / 4 % 4))).toInt = y1 at *
        generalize (pa (16 * 2 + (4 * sh (st3 t 2) + c % 4))).toInt = y2 at *
        have hc : (∀ n d s, chR rep pl n d s = false) → C = 0 ∧ chR rep pl 0 d (c / 16 % 4) = false ∧ chR rep pl 1 d (c / 4 % 4) = false ∧ chR rep pl 2 d (c % 4) = false := fun q => ⟨p7 q, q _ _ _, q _ _ _, q _ _ _⟩
        generalize chR rep pl 0 d (c / 16 % 4) = g0 at *
        generalize chR rep pl 1 d (c / 4 % 4) = g1 at *
        generalize chR rep pl 2 d (c % 4) = g2 at *
        refine ⟨P + (x0 + x1 + x2 + y0 + y1 + y2), C + ((if g0 = true then 1 else 0) + (if g1 = true then 1 else 0) + (if g2 = true then 1 else 0)), ?_, ?_, by omega, by omega, ?_, ?_, fun q => ?_⟩
        · cases g0 <;> cases g1 <;> cases g2 <;> simp <;> omega
        · cases g0 <;> cases g1 <;> cases g2 <;> simp <;> omega
        · cases g0 <;> cases g1 <;> cases g2 <;> simp <;> omega
        · cases g0 <;> cases g1 <;> cases g2 <;> simp <;> omega
        · obtain ⟨q0, q1, q2, q3⟩ := hc q
          subst q0 q1 q2 q3
          rfl
/-- what class and reference hold after a search -/
def Best (D : Nat) (δ : Nat → Nat → Nat → Option Nat) (tc : Nat) (nc : Prop) (z V : Int) (fd : Nat → Int32) : Prop := (z = NO ∧ V = FAR ∧ ∀ c, dp_T δ tc (3 * D) c = none) ∨ ∃ (c : Nat) (T : Nat) (P C : Int), dp_T δ tc (3 * D) c = some T ∧ c < 4 ^ (3 * D) ∧ z = (P + 4096 * C) * 2 ^ 36 + (c : Int) * 4 ^ (18 - 3 * D) ∧ V = P + 100000 * C ∧ 0 ≤ P ∧ P ≤ 3564 ∧ 0 ≤ C ∧ C ≤ 18 ∧ (nc → C = 0) ∧ Fgd D c fd
theorem agree_find {D : Nat} {lgN sB wB : Nat → Nat} {fbN : Nat → Int32} {fxN scN pcN : Nat → Nat → Int32} {ch : Nat → Nat → Bool} {fbA fi co pa pl nd fd : Nat → Int32} {rep : Int32} {z V : Int} (hD : D ≤ 6) (hlg : ∀ n, n < 3 → lgN n ≤ 4) (hsB : ∀ n, n < 3 → sB n < 4) (hwB : ∀ n, n < 3 → (sB n = 0 ∧ wB n = 0) ∨ (sB n ≠ 0 ∧ 1 ≤ wB n ∧ wB n ≤ 4)) (hco : Lim 72 99 co) (hpa : Lim 48 99 pa) (H : CR D fbN fxN scN pcN ch fbA fi co pa pl rep)
    (hz : IsMin (fun c => (dp_T (tr_d D lgN fbN fxN nd) (169 * so (sB 0) (wB 0) + 13 * so (sB 1) (wB 1) + so (sB 2) (wB 2)) (3 * D) c).isSome) (dp_K (tr_d D lgN fbN fxN nd) (tr_k scN pcN ch) (169 * so (sB 0) (wB 0) + 13 * so (sB 1) (wB 1) + so (sB 2) (wB 2)) (3 * D)) z)
    (hV : (V = FAR ∧ ∀ c, rT (rS lgN fbA fi nd) (r0 sB wB) D c = none) ∨ (0 ≤ V ∧ V ≤ 3600000 ∧ ∃ c T, rT (rS lgN fbA fi nd) (r0 sB wB) D c = some T ∧ rW (rS lgN fbA fi nd) (rV rep pl co pa) (r0 sB wB) D c = V ∧ Fgd D c fd ∧ ∀ c' T', rT (rS lgN fbA fi nd) (r0 sB wB) D c' = some T' → V ≤ rW (rS lgN fbA fi nd) (rV rep pl co pa) (r0 sB wB) D c' ∧ (rW (rS lgN fbA fi nd) (rV rep pl co pa) (r0 sB wB) D c' = V → c ≤ c'))) :
    Best D (tr_d D lgN fbN fxN nd) (169 * so (sB 0) (wB 0) + 13 * so (sB 1) (wB 1) + so (sB 2) (wB 2)) (∀ n d s, chR rep pl n d s = false) z V fd := by
  have sim := sim_all (nd := nd) hD hlg hsB hwB hco hpa H D (Nat.le_refl D)
  generalize 169 * so (sB 0) (wB 0) + 13 * so (sB 1) (wB 1) + so (sB 2) (wB 2) = tc at *
  generalize r0 sB wB = tr at *
  have kc := key_code (δ := tr_d D lgN fbN fxN nd) (κ := tr_k scN pcN ch) (wt := tr_w scN pcN ch) (t0 := tc) (P := 3 * D) (by omega) (fun p t s _ => rfl) (3 * D) (Nat.le_refl _)
  rcases hz with ⟨z1, z2⟩ | ⟨c, z1, z2, z3⟩
  · rcases hV with ⟨v1, v2⟩ | ⟨_, _, c, T, v1, _⟩
    · refine .inl ⟨z1, v1, fun c => ?_⟩
      have := z2 c
      dsimp only at this
      cases h : dp_T (tr_d D lgN fbN fxN nd) tc (3 * D) c with
      | none => rfl
      | some t => rw [h] at this; cases this
    · exfalso
      have := z2 c
      dsimp only at this
      rcases sim c with ⟨_, s2⟩ | ⟨t, u, s1, _⟩
      · rw [s2] at v1; cases v1
      · rw [s1] at this; cases this
  · have lg : ∀ c', (dp_T (tr_d D lgN fbN fxN nd) tc (3 * D) c').isSome = true → ∃ t u, dp_T (tr_d D lgN fbN fxN nd) tc (3 * D) c' = some t ∧ rT (rS lgN fbA fi nd) tr D c' = some u ∧ PC (dp_K (tr_d D lgN fbN fxN nd) (tr_w scN pcN ch) tc (3 * D) c') (rW (rS lgN fbA fi nd) (rV rep pl co pa) tr D c') D (∀ n d s, chR rep pl n d s = false) := by
      intro c' h
      rcases sim c' with ⟨s1, _⟩ | ⟨t, u, s1, s2, _, _, s3⟩
      · rw [s1] at h; cases h
      · exact ⟨t, u, s1, s2, s3⟩
    obtain ⟨t, u, s1, s2, P, C, p1, p2, p3, p4, p5, p6, p7⟩ := lg c z1
    rcases hV with ⟨v1, v2⟩ | ⟨v0, v0', cf, T, v1, v2, v3, v4⟩
    · rw [v2 c] at s2; cases s2
    · have hsf : (dp_T (tr_d D lgN fbN fxN nd) tc (3 * D) cf).isSome = true := by
        rcases sim cf with ⟨_, q⟩ | ⟨t, _, q, _⟩
        · rw [q] at v1; cases v1
        · rw [q]; rfl
      obtain ⟨tf, uf, f1, f2, Pf, Cf, g1, g2, g3, g4, g5, g6, g7⟩ := lg cf hsf
      have hk := z3 cf hsf
      rw [kc c t s1, kc cf tf f1, p1, g1] at hk
      obtain ⟨m1, m2⟩ := v4 c u s2
      have hc := tt_lt s1
      have hcf := tt_lt f1
      have hgp : (0 : Int) < 4 ^ (18 - 3 * D) := Int.pow_pos (by omega)
      have hsz : ∀ x : Nat, x < 4 ^ (3 * D) → 0 ≤ (x : Int) * 4 ^ (18 - 3 * D) ∧ (x : Int) * 4 ^ (18 - 3 * D) < 2 ^ 36 := by
        intro x hx
        have e : (4 : Nat) ^ (3 * D) * 4 ^ (18 - 3 * D) = 4 ^ 18 := by rw [← Nat.pow_add]; congr 1; omega
        have h1 : x * 4 ^ (18 - 3 * D) < 4 ^ (3 * D) * 4 ^ (18 - 3 * D) := Nat.mul_lt_mul_of_pos_right hx (Nat.pow_pos (by omega))
        rw [e] at h1
        have e2 : (x : Int) * 4 ^ (18 - 3 * D) = ((x * 4 ^ (18 - 3 * D) : Nat) : Int) := by simp
        rw [e2]
        have : (4 : Nat) ^ 18 = 2 ^ 36 := by decide
        omega
      have b1 := hsz c hc
      have b2 := hsz cf hcf
      have hD' : (D : Int) ≤ 6 := by omega
      generalize hx : (c : Int) * 4 ^ (18 - 3 * D) = x at *
      generalize hxf : (cf : Int) * 4 ^ (18 - 3 * D) = xf at *
      have e1 : C = Cf := by omega
      have e2 : P = Pf := by omega
      have h1 : x ≤ xf := by omega
      have h2 : cf ≤ c := m2 (by omega)
      have h3 : (c : Int) ≤ cf := by
        rw [← hx, ← hxf] at h1
        exact Int.le_of_mul_le_mul_right h1 hgp
      have e3 : cf = c := by omega
      subst e3
      refine .inr ⟨cf, t, P, C, s1, hc, ?_, by omega, p3, by omega, p5, by omega, p7, v3⟩
      rw [z2, kc cf t s1, p1]
