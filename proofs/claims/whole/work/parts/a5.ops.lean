/-! lines, line, price, bound: class and reference answer alike -/
theorem sm_i {α β γ : Type} {a : α} {f : α → γ} {g : β → γ} : sm (.inl a) f g = f a := rfl
theorem sm_o {α β γ : Type} {a : β} {f : α → γ} {g : β → γ} : sm (.inr a) f g = g a := rfl
theorem p_reqN : ∀ n, n < 3 → f_Wr_requireNurse (mI n) = some (.inl ()) := by decide
theorem p_unp {fu D n : Nat} {lgN sB wB : Nat → Nat} {fbN : Nat → Int32} {fxN scN pcN : Nat → Nat → Int32} {np w nw : Nat → Int32} {k nk : Nat → Int64} (hn : n < 3) : f_Wr_walkUnpriced fu (mI n) (mI 0) (fbN 0) (mI (lgN 0)) (mI (so (sB 0) (wB 0))) (mI D) (scN 0) (pcN 0) (fxN 0) (mI 1) (fbN 1) (mI (lgN 1)) (mI (so (sB 1) (wB 1))) (mI D) (scN 1) (pcN 1) (fxN 1) (mI 2) (fbN 2) (mI (lgN 2)) (mI (so (sB 2) (wB 2))) (mI D) (scN 2) (pcN 2) (fxN 2) k nk w nw np = (f_Lw_walkLines fu k nk w nw (mI n) (fbN n) (mI (lgN n)) (mI (so (sB n) (wB n))) (mI D) (scN n) (pcN n) (fxN n) np).bind fun r17 => some (r17.1, r17.2.1, r17.2.2.1, r17.2.2.2.1, r17.2.2.2.2) := by
  unfold f_Wr_walkUnpriced
  rcases n3 hn with rfl | rfl | rfl
  · rw [if_pos (by decide)]
  · rw [if_neg (by decide), if_pos (by decide)]
  · rw [if_neg (by decide), if_neg (by decide), if_pos (by decide)]
theorem lim_np {np : Nat → Int32} (h : ∀ k, k < 24 → np k = 0) : Lim 24 999 np := by
  intro k hk
  rw [h k hk]
  decide
theorem ag_lines {fu D n : Nat} {lgN sB wB : Nat → Nat} {fbN : Nat → Int32} {fxN scN pcN : Nat → Nat → Int32} {nd fbA lgA bs bw ndM co pa fi : Nat → Int32} {np w nw : Nat → Int32} {k nk : Nat → Int64} {l0 p0 : Int32} (hfu : 4096 < fu) (W : Wd D lgN sB wB fbN fxN scN pcN nd fbA lgA bs bw ndM co pa fi) (hn : n < 3) (hnp : ∀ k, k < 24 → np k = 0) :
    ∃ v k' nk' w' nw' l1 p1, f_Wr_lines fu (mI n) (mI 0) (fbN 0) (mI (lgN 0)) (mI (so (sB 0) (wB 0))) (mI D) (scN 0) (pcN 0) (fxN 0) (mI 1) (fbN 1) (mI (lgN 1)) (mI (so (sB 1) (wB 1))) (mI D) (scN 1) (pcN 1) (fxN 1) (mI 2) (fbN 2) (mI (lgN 2)) (mI (so (sB 2) (wB 2))) (mI D) (scN 2) (pcN 2) (fxN 2) k nk w nw np = some (.inl (v, k', nk', w', nw')) ∧ f_Wm_lines fu (mI n) (mI D) l0 p0 fbA lgA bs bw co pa fi = some (v, 0, l1, p1) := by
  have hD := W.hD
  have hw' : (sB n = 0 ∧ wB n = 0) ∨ (sB n ≠ 0 ∧ 1 ≤ wB n) := by have := W.wB n hn; omega
  obtain ⟨z, k', nk', w', nw', h1, _, h3⟩ := p_walkLines (fu := fu) (k := k) (nk := nk) (w := w) (nw := nw) (fb := fbN n) (fx := fxN n) (by omega) hD hn (W.sot hn) (W.lg n hn) (W.lsc hn) (W.lpc hn) (lim_np hnp)
  obtain ⟨l1, p1, g1⟩ := p_linesR (fu := fu) (l0 := l0) (p0 := p0) (fbA := fbA) (fi := fi) (co := co) (pa := pa) hfu hn hD (W.sB n hn) (W.w4 hn) (W.lg n hn) (W.bs n hn) (W.bw n hn) (W.la n hn)
  have hc := p_countLines (fu := fu) (by omega) h3 (fun c t h => tt_st (W.sot hn) (cl_lt (W.lg n hn)) h)
  rw [agree_cnt (W.sB n hn) hw'] at hc
  rw [ok_ref W hn] at g1
  refine ⟨_, k', nk', w', nw', l1, p1, ?_, g1⟩
  unfold f_Wr_lines
  rw [p_reqN n hn, sb]
  show ((f_Wr_walkUnpriced fu (mI n) (mI 0) (fbN 0) (mI (lgN 0)) (mI (so (sB 0) (wB 0))) (mI D) (scN 0) (pcN 0) (fxN 0) (mI 1) (fbN 1) (mI (lgN 1)) (mI (so (sB 1) (wB 1))) (mI D) (scN 1) (pcN 1) (fxN 1) (mI 2) (fbN 2) (mI (lgN 2)) (mI (so (sB 2) (wB 2))) (mI D) (scN 2) (pcN 2) (fxN 2) k nk w nw np).bind _) = _
  rw [p_unp hn, h1, sb, sb]
  dsimp only
  rw [hc, sb]
  rfl
theorem ag_line1 {fu D n : Nat} {lgN sB wB : Nat → Nat} {fbN : Nat → Int32} {fxN scN pcN : Nat → Nat → Int32} {nd fbA lgA bs bw ndM co pa fi : Nat → Int32} {np w nw : Nat → Int32} {k nk : Nat → Int64} {l0 p0 : Int32} (hfu : 4096 < fu) (W : Wd D lgN sB wB fbN fxN scN pcN nd fbA lgA bs bw ndM co pa fi) (hn : n < 3) (hnp : ∀ k, k < 24 → np k = 0) :
    ∃ v k' nk' w' nw' l1 p1, f_Wr_line fu (mI n) (mI 0) (fbN 0) (mI (lgN 0)) (mI (so (sB 0) (wB 0))) (mI D) (scN 0) (pcN 0) (fxN 0) (mI 1) (fbN 1) (mI (lgN 1)) (mI (so (sB 1) (wB 1))) (mI D) (scN 1) (pcN 1) (fxN 1) (mI 2) (fbN 2) (mI (lgN 2)) (mI (so (sB 2) (wB 2))) (mI D) (scN 2) (pcN 2) (fxN 2) k nk w nw np = some (.inl (v, k', nk', w', nw')) ∧ f_Wm_line fu (mI n) (mI D) l0 p0 fbA lgA bs bw co pa fi = some (v, 0, l1, p1) := by
  have hD := W.hD
  have hN : NO = 2 ^ 62 := by decide
  have hw' : (sB n = 0 ∧ wB n = 0) ∨ (sB n ≠ 0 ∧ 1 ≤ wB n) := by have := W.wB n hn; omega
  obtain ⟨z, k', nk', w', nw', h1, h2, _⟩ := p_walkLines (fu := fu) (k := k) (nk := nk) (w := w) (nw := nw) (fb := fbN n) (fx := fxN n) (by omega) hD hn (W.sot hn) (W.lg n hn) (W.lsc hn) (W.lpc hn) (lim_np hnp)
  obtain ⟨r, l1, p1, g1, g2⟩ := p_lineR (fu := fu) (l0 := l0) (p0 := p0) (fbA := fbA) (fi := fi) (co := co) (pa := pa) hfu hn hD (W.sB n hn) (W.w4 hn) (W.lg n hn) (W.bs n hn) (W.bw n hn) (W.la n hn) (fun k hk => W.lco _ (by omega)) (fun k hk => W.lpa _ (by omega))
  have e2 : rf_p (sB n) (fun k => co (24 * n + k)) (fun k => pa (16 * n + k)) D = rf_p (sB n) (scN n) (pcN n) D := by
    funext c
    exact pen_ref W hn c
  rw [ok_ref W hn, e2] at g2
  have ha := agree_line hn W.hD1 hD (W.sB n hn) hw' hnp h2 g2
  refine ⟨r, k', nk', w', nw', l1, p1, ?_, g1⟩
  unfold f_Wr_line
  rw [p_reqN n hn, sb]
  show ((f_Wr_walkUnpriced fu (mI n) (mI 0) (fbN 0) (mI (lgN 0)) (mI (so (sB 0) (wB 0))) (mI D) (scN 0) (pcN 0) (fxN 0) (mI 1) (fbN 1) (mI (lgN 1)) (mI (so (sB 1) (wB 1))) (mI D) (scN 1) (pcN 1) (fxN 1) (mI 2) (fbN 2) (mI (lgN 2)) (mI (so (sB 2) (wB 2))) (mI D) (scN 2) (pcN 2) (fxN 2) k nk w nw np).bind _) = _
  rw [p_unp hn, h1, sb, sb]
  dsimp only
  rcases ha with ⟨a1, a2⟩ | ⟨c, c1, c2, c3, c4⟩
  · rw [a1, NO_jJ, if_pos rfl, a2]
  · have hp := rf_p_bd (W.sB n hn) (W.lsc hn) (W.lpc hn) D hD c
    have hg := g_bd hn W.hD1 hD c
    have hD' : (D : Int) ≤ 6 := by omega
    have hz : 0 ≤ z ∧ z < 2 ^ 60 := by omega
    rw [NO_jJ, if_neg (fun q => absurd ((jJ_inj (by omega) (by omega) (by omega) (by omega)).1 q) (by omega)), p_weightOf (by omega) (by omega), sb, c4]
theorem ag_price {D d s : Nat} {q qm : Nat → Int32} (hD : D ≤ 6) (hd : d < D) (hs1 : 1 ≤ s) (hs : s < 4) (h : ∀ k, k < 24 → q k = qm k) : f_Wr_price (mI d) (mI s) (mI D) q = some (.inl (q (4 * d + s))) ∧ f_Wm_price (mI d) (mI s) (mI D) qm = some (q (4 * d + s), 0) := by
  have d0 : ¬ mI d < 0 := fun q => absurd ((mI_lt (b := 0) (by omega) (by omega)).1 q) (by omega)
  have dD : mI d < mI D := (mI_lt (by omega) (by omega)).2 hd
  have s1 : ¬ mI s < 1 := fun q => absurd ((mI_lt (b := 1) (by omega) (by omega)).1 q) (by omega)
  constructor
  · unfold f_Wr_price f_Wr_requireDay f_Wr_requireShift
    rw [if_neg d0, if_pos dD, sb]
    show ((if mI s < 1 then _ else if mI s < 4 then _ else _) : Option _).bind _ = _
    rw [if_neg s1, if_pos (show mI s < 4 from (mI_lt (b := 4) (by omega) (by omega)).2 hs), sb, sm_i, p_cell, sb, gi_n (by omega) (by omega), sb]
  · unfold f_Wm_price f_Wm_noDay f_Wm_price_b24
    have e : 4 * mI d + mI s = mI (4 * d + s) := by
      show mI 4 * mI d + mI s = _
      rw [mI_mul, mI_add]
    rw [if_neg d0, if_pos dD, sb, if_pos rfl, if_neg s1, if_pos (show mI s ≤ 3 from (mI_le (b := 3) (by omega) (by omega)).2 (by omega)), if_pos rfl, e, gi_n (by omega) (by omega), sb, h _ (by omega)]
theorem ag_bound {D r : Nat} {gl rc bd : Int32} {q qm : Nat → Int32} (hr : r < 10000) (h : PR D gl rc q r bd qm) : f_Wr_bound gl = some gl ∧ f_Wm_bound (mI r) bd = some (gl, 0) := by
  refine ⟨rfl, ?_⟩
  obtain ⟨_, _, _, _, h5, h6⟩ := h
  unfold f_Wm_bound
  by_cases h0 : r = 0
  · rw [if_pos (by rw [h0]; rfl), (h5 h0).1]; rfl
  · rw [if_neg (mI_ne0 (by omega) (by omega)), (h6 h0).1]
