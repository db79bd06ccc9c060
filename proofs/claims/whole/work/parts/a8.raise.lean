/-! raise: class and reference answer alike -/
theorem iter2_for {α β α2 β2 : Type} {b : α → Option (α ⊕ β)} {b2 : α2 → Option (α2 ⊕ β2)} {N : Nat} (st : Nat → α → α2 → Prop) {P : β → β2 → Prop} (hs : ∀ k a a2, k < N → st k a a2 → ∃ a' a2', b a = some (.inl a') ∧ b2 a2 = some (.inl a2') ∧ st (k + 1) a' a2') (he : ∀ a a2, st N a a2 → ∃ r r2, b a = some (.inr r) ∧ b2 a2 = some (.inr r2) ∧ P r r2) :
    ∀ (fu k : Nat) (a : α) (a2 : α2), k ≤ N → N - k < fu → st k a a2 → ∃ r r2, iter b fu a = some r ∧ iter b2 fu a2 = some r2 ∧ P r r2 := by
  intro fu
  induction fu with
  | zero => intro k a a2 _ h; omega
  | succ n ih =>
    intro k a a2 hk hn h
    have e1 : ∀ x, b a = some x → iter b (n + 1) a = (match x with
        | .inl a' => iter b n a'
        | .inr r => some r) := by
      intro x hx
      show ((b a).bind fun q => match q with
        | .inl a' => iter b n a'
        | .inr r => some r) = _
      rw [hx]; rfl
    have e2 : ∀ x, b2 a2 = some x → iter b2 (n + 1) a2 = (match x with
        | .inl a' => iter b2 n a'
        | .inr r => some r) := by
      intro x hx
      show ((b2 a2).bind fun q => match q with
        | .inl a' => iter b2 n a'
        | .inr r => some r) = _
      rw [hx]; rfl
    by_cases hkN : k < N
    · obtain ⟨a', a2', h1, h2, h3⟩ := hs k a a2 hkN h
      obtain ⟨r, r2, g1, g2, g3⟩ := ih (k + 1) a' a2' hkN (by omega) h3
      exact ⟨r, r2, by rw [e1 _ h1]; exact g1, by rw [e2 _ h2]; exact g2, g3⟩
    · have e : k = N := by omega
      subst e
      obtain ⟨r, r2, h1, h2, h3⟩ := he a a2 h
      exact ⟨r, r2, by rw [e1 _ h1], by rw [e2 _ h2], h3⟩
theorem lin_ex {D n : Nat} {lgN sB wB : Nat → Nat} {fbN : Nat → Int32} {fxN scN pcN : Nat → Nat → Int32} {q : Nat → Int32} {z : Int} {pick : Int32} (hD1 : 1 ≤ D) (hD : D ≤ 6) (hn : n < 3) (hsB : sB n < 4) (hsc : Lim 24 99 (scN n)) (hpc : Lim 16 99 (pcN n)) (hq : Lim 24 999 q) (h : Lin D lgN sB wB fbN fxN scN pcN q n z pick) : (jJ z = jJ NO ∧ pick = -1 ∧ ∀ c, c < 4 ^ D → lok D lgN sB wB fbN fxN n c = false) ∨ (¬ jJ z = jJ NO ∧ 0 ≤ pick ∧ ∃ c, c < 4 ^ D ∧ lok D lgN sB wB fbN fxN n c = true) := by
  have hN : NO = 2 ^ 62 := by decide
  rcases h with ⟨h1, h2, h3⟩ | ⟨c, c1, c2, c3, c4⟩
  · exact .inl ⟨by rw [h1], h2, h3⟩
  · right
    have hp := rf_p_bd hsB hsc hpc D hD c
    have hqq := rf_q_bd hq D hD c
    have hg := g_bd hn hD1 hD c
    have hp4 := pow46 hD
    have hD' : (D : Int) ≤ 6 := by omega
    have hpb : 0 ≤ lpen D sB scN pcN n c ∧ lpen D sB scN pcN n c ≤ 1188 := by unfold lpen; omega
    refine ⟨fun q => absurd ((jJ_inj (by omega) (by omega) (by omega) (by omega)).1 q) (by omega), ?_, c, c1, c2⟩
    rw [c3]
    show mI 0 ≤ mI c
    rw [mI_le (by omega) (by omega)]
    omega
theorem q_req {fu D : Nat} {lgN sB wB : Nat → Nat} {fbN : Nat → Int32} {fxN scN pcN : Nat → Nat → Int32} {nd fbA lgA bs bw ndM co pa fi : Nat → Int32} {np w nw : Nat → Int32} {k nk : Nat → Int64} (hfu : 4096 < fu) (W : Wd D lgN sB wB fbN fxN scN pcN nd fbA lgA bs bw ndM co pa fi) (hnp : ∀ k, k < 24 → np k = 0) :
    (∃ k' nk' w' nw', f_Wr_requireLines fu (mI 0) (fbN 0) (mI (lgN 0)) (mI (so (sB 0) (wB 0))) (mI D) (scN 0) (pcN 0) (fxN 0) (mI 1) (fbN 1) (mI (lgN 1)) (mI (so (sB 1) (wB 1))) (mI D) (scN 1) (pcN 1) (fxN 1) (mI 2) (fbN 2) (mI (lgN 2)) (mI (so (sB 2) (wB 2))) (mI D) (scN 2) (pcN 2) (fxN 2) k nk w nw np = some (.inl (k', nk', w', nw')) ∧ ∀ n, n < 3 → ∃ c, c < 4 ^ D ∧ lok D lgN sB wB fbN fxN n c = true) ∨ (∃ k' nk' w' nw', f_Wr_requireLines fu (mI 0) (fbN 0) (mI (lgN 0)) (mI (so (sB 0) (wB 0))) (mI D) (scN 0) (pcN 0) (fxN 0) (mI 1) (fbN 1) (mI (lgN 1)) (mI (so (sB 1) (wB 1))) (mI D) (scN 1) (pcN 1) (fxN 1) (mI 2) (fbN 2) (mI (lgN 2)) (mI (so (sB 2) (wB 2))) (mI D) (scN 2) (pcN 2) (fxN 2) k nk w nw np = some (.inr (3, k', nk', w', nw')) ∧ ∃ n, n < 3 ∧ ∀ c, c < 4 ^ D → lok D lgN sB wB fbN fxN n c = false) := by
  have one : ∀ n, n < 3 → ∀ k nk w nw, ∃ z k' nk' w' nw', f_Wr_walkUnpriced fu (mI n) (mI 0) (fbN 0) (mI (lgN 0)) (mI (so (sB 0) (wB 0))) (mI D) (scN 0) (pcN 0) (fxN 0) (mI 1) (fbN 1) (mI (lgN 1)) (mI (so (sB 1) (wB 1))) (mI D) (scN 1) (pcN 1) (fxN 1) (mI 2) (fbN 2) (mI (lgN 2)) (mI (so (sB 2) (wB 2))) (mI D) (scN 2) (pcN 2) (fxN 2) k nk w nw np = some (jJ z, k', nk', w', nw') ∧ ((jJ z = jJ NO ∧ ∀ c, c < 4 ^ D → lok D lgN sB wB fbN fxN n c = false) ∨ (¬ jJ z = jJ NO ∧ ∃ c, c < 4 ^ D ∧ lok D lgN sB wB fbN fxN n c = true)) := by
    intro n hn k nk w nw
    obtain ⟨z, pick, h1, h2, _⟩ := ag_line (qm := np) hfu W hn (lim_np hnp) (fun _ _ => rfl)
    obtain ⟨k', nk', w', nw', h3⟩ := h2 k nk w nw
    refine ⟨z, k', nk', w', nw', ?_, ?_⟩
    · rw [p_unp hn, h3, sb]
    · rcases lin_ex W.hD1 W.hD hn (W.sB n hn) (W.lsc hn) (W.lpc hn) (lim_np hnp) h1 with ⟨a, _, b⟩ | ⟨a, _, b⟩
      · exact .inl ⟨a, b⟩
      · exact .inr ⟨a, b⟩
  unfold f_Wr_requireLines
  rw [NO_jJ]
  obtain ⟨z0, k0, nk0, w0, nw0, a1, a2⟩ := one 0 (by omega) k nk w nw
  obtain ⟨z1, k1, nk1, w1, nw1, b1, b2⟩ := one 1 (by omega) k0 nk0 w0 nw0
  obtain ⟨z2, k2, nk2, w2, nw2, c1, c2⟩ := one 2 (by omega) k1 nk1 w1 nw1
  have a1 : f_Wr_walkUnpriced fu 0 (mI 0) (fbN 0) (mI (lgN 0)) (mI (so (sB 0) (wB 0))) (mI D) (scN 0) (pcN 0) (fxN 0) (mI 1) (fbN 1) (mI (lgN 1)) (mI (so (sB 1) (wB 1))) (mI D) (scN 1) (pcN 1) (fxN 1) (mI 2) (fbN 2) (mI (lgN 2)) (mI (so (sB 2) (wB 2))) (mI D) (scN 2) (pcN 2) (fxN 2) k nk w nw np = _ := a1
  have b1 : f_Wr_walkUnpriced fu 1 (mI 0) (fbN 0) (mI (lgN 0)) (mI (so (sB 0) (wB 0))) (mI D) (scN 0) (pcN 0) (fxN 0) (mI 1) (fbN 1) (mI (lgN 1)) (mI (so (sB 1) (wB 1))) (mI D) (scN 1) (pcN 1) (fxN 1) (mI 2) (fbN 2) (mI (lgN 2)) (mI (so (sB 2) (wB 2))) (mI D) (scN 2) (pcN 2) (fxN 2) k0 nk0 w0 nw0 np = _ := b1
  have c1 : f_Wr_walkUnpriced fu 2 (mI 0) (fbN 0) (mI (lgN 0)) (mI (so (sB 0) (wB 0))) (mI D) (scN 0) (pcN 0) (fxN 0) (mI 1) (fbN 1) (mI (lgN 1)) (mI (so (sB 1) (wB 1))) (mI D) (scN 1) (pcN 1) (fxN 1) (mI 2) (fbN 2) (mI (lgN 2)) (mI (so (sB 2) (wB 2))) (mI D) (scN 2) (pcN 2) (fxN 2) k1 nk1 w1 nw1 np = _ := c1
  rw [a1, sb]
  dsimp only
  rcases a2 with ⟨a2, a3⟩ | ⟨a2, a3⟩
  · rw [if_pos a2]
    exact .inr ⟨_, _, _, _, rfl, 0, by omega, a3⟩
  · rw [if_neg a2, b1, sb]
    dsimp only
    rcases b2 with ⟨b2, b3⟩ | ⟨b2, b3⟩
    · rw [if_pos b2]
      exact .inr ⟨_, _, _, _, rfl, 1, by omega, b3⟩
    · rw [if_neg b2, c1, sb]
      dsimp only
      rcases c2 with ⟨c2, c3⟩ | ⟨c2, c3⟩
      · rw [if_pos c2]
        exact .inr ⟨_, _, _, _, rfl, 2, by omega, c3⟩
      · rw [if_neg c2]
        refine .inl ⟨_, _, _, _, rfl, fun n hn => ?_⟩
        rcases n3 hn with rfl | rfl | rfl
        · exact a3
        · exact b3
        · exact c3
theorem q_r22 {fu D : Nat} {lgN sB wB : Nat → Nat} {fbN : Nat → Int32} {fxN scN pcN : Nat → Nat → Int32} {nd fbA lgA bs bw ndM co pa fi : Nat → Int32} {q qm : Nat → Int32} {l0 p0 : Int32} (hfu : 4096 < fu) (W : Wd D lgN sB wB fbN fxN scN pcN nd fbA lgA bs bw ndM co pa fi) (hq : Lim 24 999 q) (hqm : ∀ k, k < 24 → q k = qm k) :
    ∃ r, iter (f_Wm_raise_l22 fu (mI D) fbA lgA bs bw co pa fi qm) fu (mI 0, 0, l0, p0) = some r ∧ ((r.2.1 = 0 ∧ ∀ n, n < 3 → ∃ c, c < 4 ^ D ∧ lok D lgN sB wB fbN fxN n c = true) ∨ (r.2.1 = 2 ∧ ∃ n, n < 3 ∧ ∀ c, c < 4 ^ D → lok D lgN sB wB fbN fxN n c = false)) := by
  refine iter_inv (fun (s : Int32 × Int32 × Int32 × Int32) => ∃ n, n ≤ 3 ∧ s.1 = mI n ∧ ((s.2.1 = 0 ∧ ∀ m, m < n → ∃ c, c < 4 ^ D ∧ lok D lgN sB wB fbN fxN m c = true) ∨ (s.2.1 = 2 ∧ ∃ n, n < 3 ∧ ∀ c, c < 4 ^ D → lok D lgN sB wB fbN fxN n c = false))) (fun s => 3 - s.1.toNatClampNeg) (P := fun (r : Int32 × Int32 × Int32 × Int32) => (r.2.1 = 0 ∧ ∀ n, n < 3 → ∃ c, c < 4 ^ D ∧ lok D lgN sB wB fbN fxN n c = true) ∨ (r.2.1 = 2 ∧ ∃ n, n < 3 ∧ ∀ c, c < 4 ^ D → lok D lgN sB wB fbN fxN n c = false)) ?_ fu (mI 0, 0, l0, p0) (by omega) ⟨0, by omega, rfl, .inl ⟨rfl, fun m hm => by omega⟩⟩
  rintro ⟨s1, s2, l, p⟩ ⟨n, hn3, h1, h2⟩
  dsimp only at h1 h2
  subst h1
  unfold f_Wm_raise_l22 f_Wm_raise_b48
  dsimp only
  by_cases hn : n < 3
  · rw [if_neg (show ¬ (3 : Int32) ≤ mI n from fun q => absurd ((mI_le (a := 3) (by omega) (by omega)).1 q) (by omega))]
    rcases h2 with ⟨rfl, h2⟩ | ⟨rfl, h2⟩
    · left
      obtain ⟨z, pick, g1, _, g3⟩ := ag_line hfu W hn hq hqm
      obtain ⟨l1, p1, g4⟩ := g3 l p
      rw [if_pos rfl, g4, sb]
      dsimp only
      have hμ : 3 - (mI (n + 1)).toNatClampNeg < 3 - (mI n).toNatClampNeg := by
        rw [Int32.toNatClampNeg_ofNat_of_lt (by omega), Int32.toNatClampNeg_ofNat_of_lt (by omega)]; omega
      rcases lin_ex W.hD1 W.hD hn (W.sB n hn) (W.lsc hn) (W.lpc hn) hq g1 with ⟨_, a2, a3⟩ | ⟨_, a2, a3⟩
      · rw [a2, if_neg (by decide), mI_1]
        exact ⟨_, rfl, ⟨n + 1, by omega, rfl, .inr ⟨rfl, n, hn, a3⟩⟩, hμ⟩
      · rw [if_pos a2, mI_1]
        refine ⟨_, rfl, ⟨n + 1, by omega, rfl, .inl ⟨rfl, fun m hm => ?_⟩⟩, hμ⟩
        by_cases e : m = n
        · rw [e]; exact a3
        · exact h2 m (by omega)
    · right
      rw [if_neg (by decide)]
      exact ⟨_, rfl, .inr ⟨rfl, h2⟩⟩
  · have e : n = 3 := by omega
    subst e
    right
    rw [if_pos (show (3 : Int32) ≤ mI 3 from (mI_le (a := 3) (by omega) (by omega)).2 (by omega))]
    exact ⟨_, rfl, h2⟩
theorem ag_raise {fu D r m : Nat} {lgN sB wB : Nat → Nat} {fbN : Nat → Int32} {fxN scN pcN : Nat → Nat → Int32} {nd fbA lgA bs bw ndM co pa fi : Nat → Int32} {q qm cn np w nw : Nat → Int32} {k nk : Nat → Int64} {gl rc bd l0 p0 : Int32} (hfu : 4096 < fu) (hr : r + 12 < 10000) (W : Wd D lgN sB wB fbN fxN scN pcN nd fbA lgA bs bw ndM co pa fi) (hP : PR D gl rc q r bd qm) (hnp : ∀ k, k < 24 → np k = 0) (hm1 : 1 ≤ m) (hm : m ≤ 12) :
    (∃ k' nk' w' nw' l1 p1, f_Wr_raise fu (mI m) (mI D) (mI 0) (fbN 0) (mI (lgN 0)) (mI (so (sB 0) (wB 0))) (mI D) (scN 0) (pcN 0) (fxN 0) (mI 1) (fbN 1) (mI (lgN 1)) (mI (so (sB 1) (wB 1))) (mI D) (scN 1) (pcN 1) (fxN 1) (mI 2) (fbN 2) (mI (lgN 2)) (mI (so (sB 2) (wB 2))) (mI D) (scN 2) (pcN 2) (fxN 2) nd k nk w nw gl rc q np = some (.inr (3, k', nk', w', nw', gl, rc, q)) ∧ f_Wm_raise fu (mI m) (mI D) (mI r) bd l0 p0 fbA lgA bs bw ndM co pa fi qm cn = some (0, 2, mI r, bd, l1, p1, qm, cn)) ∨ ∃ v k' nk' w' nw' gl' rc' q' bd' l1 p1 qm' cn', f_Wr_raise fu (mI m) (mI D) (mI 0) (fbN 0) (mI (lgN 0)) (mI (so (sB 0) (wB 0))) (mI D) (scN 0) (pcN 0) (fxN 0) (mI 1) (fbN 1) (mI (lgN 1)) (mI (so (sB 1) (wB 1))) (mI D) (scN 1) (pcN 1) (fxN 1) (mI 2) (fbN 2) (mI (lgN 2)) (mI (so (sB 2) (wB 2))) (mI D) (scN 2) (pcN 2) (fxN 2) nd k nk w nw gl rc q np = some (.inl (v, k', nk', w', nw', gl', rc', q')) ∧ f_Wm_raise fu (mI m) (mI D) (mI r) bd l0 p0 fbA lgA bs bw ndM co pa fi qm cn = some (v, 0, mI (r + m), bd', l1, p1, qm', cn') ∧ PR D gl' rc' q' (r + m) bd' qm' := by
  have x1 : ¬ mI m < 1 := fun q => absurd ((mI_lt (b := 1) (by omega) (by omega)).1 q) (by omega)
  have x2 : mI m ≤ 12 := (mI_le (b := 12) (by omega) (by omega)).2 (by omega)
  obtain ⟨r22, a1, a2⟩ := q_r22 (l0 := l0) (p0 := p0) (qm := qm) hfu W hP.2.2.1 hP.2.1
  have eR : f_Wm_raise fu (mI m) (mI D) (mI r) bd l0 p0 fbA lgA bs bw ndM co pa fi qm cn = f_Wm_raise_b57 fu (mI m) r22.2.1 (mI D) (mI r) bd r22.2.2.1 r22.2.2.2 fbA lgA bs bw ndM co pa fi qm cn := by
    unfold f_Wm_raise f_Wm_raise_b17
    rw [if_neg x1, if_pos x2]
    show (iter _ fu (mI 0, 0, l0, p0)).bind _ = _
    rw [a1, sb]
  have eC : f_Wr_raise fu (mI m) (mI D) (mI 0) (fbN 0) (mI (lgN 0)) (mI (so (sB 0) (wB 0))) (mI D) (scN 0) (pcN 0) (fxN 0) (mI 1) (fbN 1) (mI (lgN 1)) (mI (so (sB 1) (wB 1))) (mI D) (scN 1) (pcN 1) (fxN 1) (mI 2) (fbN 2) (mI (lgN 2)) (mI (so (sB 2) (wB 2))) (mI D) (scN 2) (pcN 2) (fxN 2) nd k nk w nw gl rc q np = (f_Wr_requireLines fu (mI 0) (fbN 0) (mI (lgN 0)) (mI (so (sB 0) (wB 0))) (mI D) (scN 0) (pcN 0) (fxN 0) (mI 1) (fbN 1) (mI (lgN 1)) (mI (so (sB 1) (wB 1))) (mI D) (scN 1) (pcN 1) (fxN 1) (mI 2) (fbN 2) (mI (lgN 2)) (mI (so (sB 2) (wB 2))) (mI D) (scN 2) (pcN 2) (fxN 2) k nk w nw np).bind fun r8 => sm r8 (fun ar8 => (iter (f_Wr_raise_l13 fu (mI m) (mI D) (mI 0) (fbN 0) (mI (lgN 0)) (mI (so (sB 0) (wB 0))) (mI D) (scN 0) (pcN 0) (fxN 0) (mI 1) (fbN 1) (mI (lgN 1)) (mI (so (sB 1) (wB 1))) (mI D) (scN 1) (pcN 1) (fxN 1) (mI 2) (fbN 2) (mI (lgN 2)) (mI (so (sB 2) (wB 2))) (mI D) (scN 2) (pcN 2) (fxN 2) nd) fu (0, ar8.1, ar8.2.1, ar8.2.2.1, ar8.2.2.2, gl, rc, q)).bind fun r13 => some (.inl (r13.2.2.2.2.2.1, r13.2.1, r13.2.2.1, r13.2.2.2.1, r13.2.2.2.2.1, r13.2.2.2.2.2.1, r13.2.2.2.2.2.2.1, r13.2.2.2.2.2.2.2))) (fun br8 => some (.inr (br8.1, br8.2.1, br8.2.2.1, br8.2.2.2.1, br8.2.2.2.2, gl, rc, q))) := by
    unfold f_Wr_raise f_Wr_requireValue
    rw [if_neg x1, if_pos x2, sb]
    rfl
  rw [eR, eC]
  unfold f_Wm_raise_b57
  rcases q_req (k := k) (nk := nk) (w := w) (nw := nw) hfu W hnp with ⟨k', nk', w', nw', b1, b2⟩ | ⟨k', nk', w', nw', b1, n, hn, b2⟩
  · right
    have a3 : r22.2.1 = 0 := by
      rcases a2 with ⟨a2, _⟩ | ⟨_, n, hn, a3⟩
      · exact a2
      · obtain ⟨c, c1, c2⟩ := b2 n hn
        rw [a3 c c1] at c2; cases c2
    rw [a3, if_pos rfl, b1, sb]
    show ∃ v k'_1 nk'_1 w'_1 nw'_1 gl' rc' q' bd' l1 p1 qm' cn', ((iter (f_Wr_raise_l13 fu (mI m) (mI D) (mI 0) (fbN 0) (mI (lgN 0)) (mI (so (sB 0) (wB 0))) (mI D) (scN 0) (pcN 0) (fxN 0) (mI 1) (fbN 1) (mI (lgN 1)) (mI (so (sB 1) (wB 1))) (mI D) (scN 1) (pcN 1) (fxN 1) (mI 2) (fbN 2) (mI (lgN 2)) (mI (so (sB 2) (wB 2))) (mI D) (scN 2) (pcN 2) (fxN 2) nd) fu (mI 0, k', nk', w', nw', gl, rc, q)).bind _) = _ ∧ ((iter _ fu (mI 0, mI r, bd, r22.2.2.1, r22.2.2.2, qm, cn)).bind _) = _ ∧ _
    obtain ⟨r1, r2, g1, g2, g3, g4, g5⟩ := iter2_for (N := m) (b := f_Wr_raise_l13 fu (mI m) (mI D) (mI 0) (fbN 0) (mI (lgN 0)) (mI (so (sB 0) (wB 0))) (mI D) (scN 0) (pcN 0) (fxN 0) (mI 1) (fbN 1) (mI (lgN 1)) (mI (so (sB 1) (wB 1))) (mI D) (scN 1) (pcN 1) (fxN 1) (mI 2) (fbN 2) (mI (lgN 2)) (mI (so (sB 2) (wB 2))) (mI D) (scN 2) (pcN 2) (fxN 2) nd) (b2 := f_Wm_raise_l68 fu (mI m) (mI D) fbA lgA bs bw ndM co pa fi) (fun j (s : Int32 × (Nat → Int64) × (Nat → Int64) × (Nat → Int32) × (Nat → Int32) × Int32 × Int32 × (Nat → Int32)) (s2 : Int32 × Int32 × Int32 × Int32 × Int32 × (Nat → Int32) × (Nat → Int32)) => s.1 = mI j ∧ s2.1 = mI j ∧ s2.2.1 = mI (r + j) ∧ PR D s.2.2.2.2.2.1 s.2.2.2.2.2.2.1 s.2.2.2.2.2.2.2 (r + j) s2.2.2.1 s2.2.2.2.2.2.1) (P := fun s s2 => s2.2.1 = mI (r + m) ∧ s.2.2.2.2.2.1 = s2.2.2.1 ∧ PR D s.2.2.2.2.2.1 s.2.2.2.2.2.2.1 s.2.2.2.2.2.2.2 (r + m) s2.2.2.1 s2.2.2.2.2.2.1)
      (by
        rintro j ⟨s1, k, nk, w, nw, gl, rc, q⟩ ⟨t1, t2, bd, l, p, qm, cn⟩ hj ⟨h1, h2, h3, h4⟩
        dsimp only at h1 h2 h3 h4
        subst h1 h2 h3
        obtain ⟨gl', rc', q', k', nk', w', nw', bd', l1, p1, qm', cn', y1, y2, y3⟩ := ag_round (k := k) (nk := nk) (w := w) (nw := nw) (l0 := l) (p0 := p) (cn := cn) hfu (by omega : r + j < 10000) W b2 h4
        unfold f_Wr_raise_l13 f_Wm_raise_l68
        dsimp only
        rw [if_neg (show ¬ mI m ≤ mI j from fun q => absurd ((mI_le (by omega) (by omega)).1 q) (by omega)), if_neg (show ¬ mI m ≤ mI j from fun q => absurd ((mI_le (by omega) (by omega)).1 q) (by omega)), y1, sb, y2, sb, mI_1]
        exact ⟨_, _, rfl, rfl, rfl, rfl, rfl, y3⟩)
      (by
        rintro ⟨s1, k, nk, w, nw, gl, rc, q⟩ ⟨t1, t2, bd, l, p, qm, cn⟩ ⟨h1, h2, h3, h4⟩
        dsimp only at h1 h2 h3 h4
        subst h1 h2 h3
        unfold f_Wr_raise_l13 f_Wm_raise_l68
        dsimp only
        rw [if_pos (show mI m ≤ mI m from (mI_le (by omega) (by omega)).2 (by omega)), if_pos (show mI m ≤ mI m from (mI_le (by omega) (by omega)).2 (by omega))]
        exact ⟨_, _, rfl, rfl, rfl, (h4.2.2.2.2.2 (by omega)).1, h4⟩)
      fu 0 (mI 0, k', nk', w', nw', gl, rc, q) (mI 0, mI r, bd, r22.2.2.1, r22.2.2.2, qm, cn) (by omega) (by omega) ⟨rfl, rfl, rfl, hP⟩
    rw [g1, sb, g2, sb, g3, g4]
    rw [g4] at g5
    exact ⟨_, _, _, _, _, _, _, _, _, _, _, _, _, rfl, rfl, g5⟩
  · left
    have a3 : r22.2.1 = 2 := by
      rcases a2 with ⟨_, a3⟩ | ⟨a2, _⟩
      · obtain ⟨c, c1, c2⟩ := a3 n hn
        rw [b2 c c1] at c2; cases c2
      · exact a2
    rw [a3, if_neg (by decide), b1, sb]
    exact ⟨_, _, _, _, _, _, rfl, rfl⟩
