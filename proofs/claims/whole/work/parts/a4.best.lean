/-! class and reference find the same roster: best, and repair of a plan -/
theorem shs_nd {nd nd' : Nat → Int32} (h : ∀ k, k < 24 → nd k = nd' k) {d t : Nat} (hd : d < 6) : ∀ k, k ≤ 3 → shs nd d t k = shs nd' d t k := by
  intro k
  induction k with
  | zero => intro _; rfl
  | succ k ih =>
    intro hk
    unfold shs
    rw [ih (by omega), h (4 * d + (k + 1)) (by omega)]
theorem tr_nd {D : Nat} {lgN : Nat → Nat} {fbN : Nat → Int32} {fxN : Nat → Nat → Int32} {nd nd' : Nat → Int32} (h : ∀ k, k < 24 → nd k = nd' k) {p : Nat} (hp : p < 18) (t s : Nat) : tr_d D lgN fbN fxN nd p t s = tr_d D lgN fbN fxN nd' p t s := by
  have hp3 : p / 3 < 6 := by omega
  have e : ∀ u, tr_ok nd p u = tr_ok nd' p u := by
    intro u
    unfold tr_ok
    rw [shs_nd h hp3 3 (Nat.le_refl 3)]
  have e2 : tr_ok nd p = tr_ok nd' p := funext e
  unfold tr_d
  rw [e2]
def BR (D : Nat) (nc : Prop) (z V : Int) (fd : Nat → Int32) : Prop := (z = NO ∧ V = FAR) ∨ ∃ (c : Nat) (P C : Int), c < 64 ^ D ∧ z = (P + 4096 * C) * 2 ^ 36 + (c : Int) * 4 ^ (18 - 3 * D) ∧ V = P + 100000 * C ∧ 0 ≤ P ∧ P ≤ 3564 ∧ 0 ≤ C ∧ C ≤ 18 ∧ (nc → C = 0) ∧ Fgd D c fd
def PlK (D : Nat) (pl : Int64) (plan : Nat → Int32) : Prop := ∃ (wt : Int) (c : Nat), 0 ≤ wt ∧ wt ≤ 100000 ∧ c < 64 ^ D ∧ pl = jJ (wt * 2 ^ 36 + (c : Int) * 4 ^ (18 - 3 * D)) ∧ Fgd D c plan
theorem ag_search {fu D : Nat} {lgN sB wB : Nat → Nat} {fbN : Nat → Int32} {fxN scN pcN : Nat → Nat → Int32} {nd fbA lgA bs bw ndM co pa fi plan sa rest af we cv fd : Nat → Int32} {ss k nk : Nat → Int64} {pl : Int64} {rep : Int32} (hfu : 4096 < fu) (W : Wd D lgN sB wB fbN fxN scN pcN nd fbA lgA bs bw ndM co pa fi) (hP : (rep = 0 ∧ pl = jJ NO) ∨ (rep = 1 ∧ PlK D pl plan)) :
    ∃ z sa' ss' k' nk' V rest' af' we' cv' fd', f_Rs_findRoster fu pl sa ss k nk (mI D) (mI 0) (fbN 0) (mI (lgN 0)) (mI (so (sB 0) (wB 0))) (mI D) (scN 0) (pcN 0) (fxN 0) (mI 1) (fbN 1) (mI (lgN 1)) (mI (so (sB 1) (wB 1))) (mI D) (scN 1) (pcN 1) (fxN 1) (mI 2) (fbN 2) (mI (lgN 2)) (mI (so (sB 2) (wB 2))) (mI D) (scN 2) (pcN 2) (fxN 2) nd = some (jJ z, sa', ss', k', nk') ∧ f_Wm_find fu (mI D) rep fbA lgA bs bw ndM co pa fi plan rest af we cv fd = some (iI V, rest', af', we', cv', fd') ∧ BR D (rep = 0) z V fd' := by
  have hD := W.hD
  have hN : NO = 2 ^ 62 := by decide
  obtain ⟨ch, c1, c2⟩ : ∃ ch : Nat → Nat → Bool, (∀ p, p < 3 * D → Plan pl (36 - 2 * (3 * (p / 3) + p % 3 + 1)) (ch p)) ∧ ∀ n d s, n < 3 → d < D → s < 4 → ch (3 * d + n) s = chR rep plan n d s := by
    rcases hP with ⟨h1, h2⟩ | ⟨h1, wt, c, p1, p2, p3, p4, p5⟩
    · refine ⟨fun _ _ => false, fun p _ => .inl ⟨h2, fun _ _ => rfl⟩, fun n d s _ _ _ => ?_⟩
      subst h1
      rfl
    · have hb := code_bd hD p3
      refine ⟨fun p s => decide (((wt * 2 ^ 36 + (c : Int) * 4 ^ (18 - 3 * D)) / 2 ^ (36 - 2 * (3 * (p / 3) + p % 3 + 1)) % 4).toNat ≠ s), fun p _ => .inr ⟨_, p4, by omega, by omega, fun _ _ => rfl⟩, fun n d s hn hd hs => ?_⟩
      dsimp only
      rw [show (3 * d + n) / 3 = d by omega, show (3 * d + n) % 3 = n by omega]
      have e : ((wt * 2 ^ 36 + (c : Int) * 4 ^ (18 - 3 * D)) / 2 ^ (36 - 2 * (3 * d + n + 1)) % 4).toNat = c / 64 ^ (D - 1 - d) / 4 ^ (2 - n) % 4 := dg_at hd hD hn
      rw [e]
      unfold chR
      rw [h1, p5 n d hn hd, decide_eq_false (by decide : ¬ (1 : Int32) = 0), Bool.not_false, Bool.true_and]
      generalize c / 64 ^ (D - 1 - d) / 4 ^ (2 - n) % 4 = g at *
      have hg : g < 4 := by
        have : g = ((wt * 2 ^ 36 + (c : Int) * 4 ^ (18 - 3 * D)) / 2 ^ (36 - 2 * (3 * d + n + 1)) % 4).toNat := e.symm
        omega
      have ei : (mI g = mI s) ↔ g = s := mI_inj (by omega) (by omega)
      by_cases q : g = s
      · rw [decide_eq_true (ei.2 q), decide_eq_false (fun h => h q)]; rfl
      · rw [decide_eq_false (fun h => q (ei.1 h)), decide_eq_true q]; rfl
  obtain ⟨z, sa', ss', k', nk', z1, z2⟩ := p_findRoster (fu := fu) (sa := sa) (ss := ss) (k := k) (nk := nk) (fbN := fbN) (fxN := fxN) (by omega) hD (W.sot (by omega : 0 < 3)) (W.sot (by omega : 1 < 3)) (W.sot (by omega : 2 < 3)) W.lg (fun n hn => W.lsc hn) (fun n hn => W.lpc hn) W.lnd' c1
  have H : RH D lgN sB wB lgA bs bw ndM co pa := ⟨hD, W.lg, W.la, W.bs, W.bw, W.sB, fun n hn => W.w4 hn, W.lnd, W.lco, W.lpa⟩
  obtain ⟨V, rest', af', we', cv', fd', v1, v2⟩ := p_find (fu := fu) (fbA := fbA) (fi := fi) (pl := plan) (rest := rest) (af := af) (we := we) (cv := cv) (fd := fd) (rep := rep) (by omega) W.hD1 H
  have hc : CR D fbN fxN scN pcN ch fbA fi co pa plan rep := ⟨W.fb, W.fx, W.sc, W.pc, c2⟩
  have hT := fun t0 c => dpT_congr (t0 := t0) (p := 3 * D) (fun p hp t s => tr_nd (D := D) (lgN := lgN) (fbN := fbN) (fxN := fxN) W.nd (show p < 18 by omega) t s) (3 * D) (Nat.le_refl _) c
  have hK := fun t0 c => dpK_congr (κ := tr_k scN pcN ch) (t0 := t0) (p := 3 * D) (fun p hp t s => tr_nd (D := D) (lgN := lgN) (fbN := fbN) (fxN := fxN) W.nd (show p < 18 by omega) t s) (3 * D) (by omega) c
  have z3 := isMin_congr (fun c => by rw [hT]) (fun c _ => hK _ c) z2
  have hB := agree_find hD W.lg W.sB W.wB W.lco W.lpa hc z3 v2
  refine ⟨z, sa', ss', k', nk', V, rest', af', we', cv', fd', z1, v1, ?_⟩
  rcases hB with ⟨b1, b2, _⟩ | ⟨c, T, P, C, b1, b2, b3, b4, b5, b6, b7, b8, b9, b10⟩
  · exact .inl ⟨b1, b2⟩
  · have := p64 D 0
    rw [Nat.pow_zero, Nat.mul_one, Nat.add_zero] at this
    rw [this] at b2
    refine .inr ⟨c, P, C, b2, b3, b4, b5, b6, b7, b8, fun h => b9 (fun n d s => ?_), b10⟩
    subst h
    rfl
/-- what is known of the best roster: on both sides nothing, or the same -/
def BK2 (D : Nat) (be : Int64) (bk sol least : Int32) (best : Nat → Int32) : Prop := (bk = 0 ∧ sol = 0) ∨ (bk = 1 ∧ sol = 1 ∧ ∃ z V, be = jJ z ∧ least = iI V ∧ BR D True z V best)
theorem q_copy {fu : Nat} {b : Int32 × (Nat → Int32) → Option ((Int32 × (Nat → Int32)) ⊕ (Int32 × (Nat → Int32)))} {f g : Nat → Int32} (hfu : 18 < fu) (hb : ∀ vv, b vv = if 18 ≤ vv.1 then some (.inr (vv.1, vv.2)) else (gi 18 f vv.1).bind fun v => (si 18 vv.2 vv.1 v).bind fun w => some (.inl ((vv.1 + 1), w))) : ∃ r, iter b fu (mI 0, g) = some r ∧ ∀ k, k < 18 → r.2 k = f k := by
  refine iter_for (N := 18) (fun k (s : Int32 × (Nat → Int32)) => s.1 = mI k ∧ ∀ j, j < k → s.2 j = f j) (P := fun (r : Int32 × (Nat → Int32)) => ∀ k, k < 18 → r.2 k = f k) ?_ ?_ fu 0 (mI 0, g) (by omega) (by omega) ⟨rfl, fun j hj => by omega⟩
  · rintro k ⟨i, g⟩ hk ⟨rfl, hg⟩
    rw [hb]
    dsimp only
    rw [if_neg (show ¬ (18 : Int32) ≤ mI k from fun q => absurd ((mI_le (a := 18) (by omega) (by omega)).1 q) (by omega)), gi_n hk (by omega), sb, si_n hk (by omega), sb, mI_1]
    refine ⟨_, rfl, rfl, fun j hj => ?_⟩
    dsimp only
    rw [upd_at]
    by_cases e : j = k
    · rw [if_pos e, e]
    · rw [if_neg e]; exact hg j (by omega)
  · rintro ⟨i, g⟩ ⟨rfl, hg⟩
    refine ⟨(mI 18, g), ?_, hg⟩
    rw [hb]
    dsimp only
    rw [if_pos (show (18 : Int32) ≤ mI 18 from (mI_le (a := 18) (by omega) (by omega)).2 (by omega))]
theorem fd_copy {D c : Nat} {f g : Nat → Int32} (hD : D ≤ 6) (h : ∀ k, k < 18 → g k = f k) (hf : Fgd D c f) : Fgd D c g := by
  intro n e hn he
  rw [h _ (by omega)]
  exact hf n e hn he
theorem br_copy {D : Nat} {nc : Prop} {z V : Int} {f g : Nat → Int32} (hD : D ≤ 6) (h : ∀ k, k < 18 → g k = f k) (hf : BR D nc z V f) : BR D nc z V g := by
  rcases hf with h1 | ⟨c, P, C, a1, a2, a3, a4, a5, a6, a7, a8, a9⟩
  · exact .inl h1
  · exact .inr ⟨c, P, C, a1, a2, a3, a4, a5, a6, a7, a8, fd_copy hD h a9⟩
theorem ag_best {fu D : Nat} {lgN sB wB : Nat → Nat} {fbN : Nat → Int32} {fxN scN pcN : Nat → Nat → Int32} {nd fbA lgA bs bw ndM co pa fi plan sa rest af we cv fd best : Nat → Int32} {ss k nk : Nat → Int64} {be : Int64} {bk sol least rep : Int32} (hfu : 4096 < fu) (W : Wd D lgN sB wB fbN fxN scN pcN nd fbA lgA bs bw ndM co pa fi) (hB : BK2 D be bk sol least best) :
    ∃ z sa' ss' k' nk' V rep' best' rest' af' we' cv' fd', f_Wr_findBest fu be bk (mI D) (mI 0) (fbN 0) (mI (lgN 0)) (mI (so (sB 0) (wB 0))) (mI D) (scN 0) (pcN 0) (fxN 0) (mI 1) (fbN 1) (mI (lgN 1)) (mI (so (sB 1) (wB 1))) (mI D) (scN 1) (pcN 1) (fxN 1) (mI 2) (fbN 2) (mI (lgN 2)) (mI (so (sB 2) (wB 2))) (mI D) (scN 2) (pcN 2) (fxN 2) nd sa ss k nk = some (jJ z, 1, sa', ss', k', nk') ∧ f_Wm_solve fu (mI D) sol least rep fbA lgA bs bw ndM co pa fi best plan rest af we cv fd = some (1, iI V, rep', best', rest', af', we', cv', fd') ∧ BR D True z V best' := by
  have hD := W.hD
  unfold f_Wr_findBest f_Wm_solve
  rcases hB with ⟨rfl, rfl⟩ | ⟨rfl, rfl, z, V, rfl, rfl, h⟩
  · rw [if_pos rfl, if_pos rfl]
    obtain ⟨z, sa', ss', k', nk', V, rest', af', we', cv', fd', h1, h2, h3⟩ := ag_search (sa := sa) (ss := ss) (k := k) (nk := nk) (plan := plan) (rest := rest) (af := af) (we := we) (cv := cv) (fd := fd) (rep := 0) (pl := jJ NO) hfu W (.inl ⟨rfl, rfl⟩)
    rw [← NO_jJ] at h1
    rw [h1, sb, h2, sb]
    obtain ⟨r, g1, g2⟩ := q_copy (f := fd') (g := best) (b := f_Wm_solve_l28 fd') (by omega : 18 < fu) (fun vv => rfl)
    refine ⟨z, sa', ss', k', nk', V, 0, r.2, rest', af', we', cv', fd', rfl, ?_, ?_⟩
    · show (iter _ fu (mI 0, best)).bind _ = _
      rw [g1, sb]
    · refine br_copy hD g2 ?_
      rcases h3 with h3 | ⟨c, P, C, a1, a2, a3, a4, a5, a6, a7, a8, a9⟩
      · exact .inl h3
      · exact .inr ⟨c, P, C, a1, a2, a3, a4, a5, a6, a7, fun _ => a8 rfl, a9⟩
  · rw [if_neg (by decide), if_neg (by decide)]
    exact ⟨z, sa, ss, k, nk, V, rep, best, rest, af, we, cv, fd, rfl, rfl, h⟩
