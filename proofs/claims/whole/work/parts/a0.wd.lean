/-! the ward on both sides; one priced line of each nurse -/
def Wd (D : Nat) (lgN sB wB : Nat → Nat) (fbN : Nat → Int32) (fxN scN pcN : Nat → Nat → Int32) (nd fbA lgA bs bw ndM co pa fi : Nat → Int32) : Prop := (1 ≤ D) ∧ (D ≤ 6) ∧ (∀ n, n < 3 → lgN n ≤ 4) ∧ (∀ n, n < 3 → lgA n = mI (lgN n)) ∧ (∀ n, n < 3 → sB n < 4) ∧ (∀ n, n < 3 → (sB n = 0 ∧ wB n = 0) ∨ (sB n ≠ 0 ∧ 1 ≤ wB n ∧ wB n ≤ 4)) ∧ (∀ n, n < 3 → bs n = mI (sB n)) ∧ (∀ n, n < 3 → bw n = mI (wB n)) ∧ (∀ n, n < 3 → fbN n = fbA n) ∧ (∀ n d, n < 3 → d < 6 → fxN n d = fi (6 * n + d)) ∧ (∀ n k, n < 3 → k < 24 → scN n k = co (24 * n + k)) ∧ (∀ n k, n < 3 → k < 16 → pcN n k = pa (16 * n + k)) ∧ (∀ k, k < 24 → nd k = ndM k) ∧ (Lim 72 99 co) ∧ (Lim 48 99 pa) ∧ (Lim 24 3 ndM)
theorem Wd.hD1 {D : Nat} {lgN sB wB : Nat → Nat} {fbN : Nat → Int32} {fxN scN pcN : Nat → Nat → Int32} {nd fbA lgA bs bw ndM co pa fi : Nat → Int32} (h : Wd D lgN sB wB fbN fxN scN pcN nd fbA lgA bs bw ndM co pa fi) : 1 ≤ D := h.1
theorem Wd.hD {D : Nat} {lgN sB wB : Nat → Nat} {fbN : Nat → Int32} {fxN scN pcN : Nat → Nat → Int32} {nd fbA lgA bs bw ndM co pa fi : Nat → Int32} (h : Wd D lgN sB wB fbN fxN scN pcN nd fbA lgA bs bw ndM co pa fi) : D ≤ 6 := h.2.1
theorem Wd.lg {D : Nat} {lgN sB wB : Nat → Nat} {fbN : Nat → Int32} {fxN scN pcN : Nat → Nat → Int32} {nd fbA lgA bs bw ndM co pa fi : Nat → Int32} (h : Wd D lgN sB wB fbN fxN scN pcN nd fbA lgA bs bw ndM co pa fi) : ∀ n, n < 3 → lgN n ≤ 4 := h.2.2.1
theorem Wd.la {D : Nat} {lgN sB wB : Nat → Nat} {fbN : Nat → Int32} {fxN scN pcN : Nat → Nat → Int32} {nd fbA lgA bs bw ndM co pa fi : Nat → Int32} (h : Wd D lgN sB wB fbN fxN scN pcN nd fbA lgA bs bw ndM co pa fi) : ∀ n, n < 3 → lgA n = mI (lgN n) := h.2.2.2.1
theorem Wd.sB {D : Nat} {lgN sB wB : Nat → Nat} {fbN : Nat → Int32} {fxN scN pcN : Nat → Nat → Int32} {nd fbA lgA bs bw ndM co pa fi : Nat → Int32} (h : Wd D lgN sB wB fbN fxN scN pcN nd fbA lgA bs bw ndM co pa fi) : ∀ n, n < 3 → sB n < 4 := h.2.2.2.2.1
theorem Wd.wB {D : Nat} {lgN sB wB : Nat → Nat} {fbN : Nat → Int32} {fxN scN pcN : Nat → Nat → Int32} {nd fbA lgA bs bw ndM co pa fi : Nat → Int32} (h : Wd D lgN sB wB fbN fxN scN pcN nd fbA lgA bs bw ndM co pa fi) : ∀ n, n < 3 → (sB n = 0 ∧ wB n = 0) ∨ (sB n ≠ 0 ∧ 1 ≤ wB n ∧ wB n ≤ 4) := h.2.2.2.2.2.1
theorem Wd.bs {D : Nat} {lgN sB wB : Nat → Nat} {fbN : Nat → Int32} {fxN scN pcN : Nat → Nat → Int32} {nd fbA lgA bs bw ndM co pa fi : Nat → Int32} (h : Wd D lgN sB wB fbN fxN scN pcN nd fbA lgA bs bw ndM co pa fi) : ∀ n, n < 3 → bs n = mI (sB n) := h.2.2.2.2.2.2.1
theorem Wd.bw {D : Nat} {lgN sB wB : Nat → Nat} {fbN : Nat → Int32} {fxN scN pcN : Nat → Nat → Int32} {nd fbA lgA bs bw ndM co pa fi : Nat → Int32} (h : Wd D lgN sB wB fbN fxN scN pcN nd fbA lgA bs bw ndM co pa fi) : ∀ n, n < 3 → bw n = mI (wB n) := h.2.2.2.2.2.2.2.1
theorem Wd.fb {D : Nat} {lgN sB wB : Nat → Nat} {fbN : Nat → Int32} {fxN scN pcN : Nat → Nat → Int32} {nd fbA lgA bs bw ndM co pa fi : Nat → Int32} (h : Wd D lgN sB wB fbN fxN scN pcN nd fbA lgA bs bw ndM co pa fi) : ∀ n, n < 3 → fbN n = fbA n := h.2.2.2.2.2.2.2.2.1
theorem Wd.fx {D : Nat} {lgN sB wB : Nat → Nat} {fbN : Nat → Int32} {fxN scN pcN : Nat → Nat → Int32} {nd fbA lgA bs bw ndM co pa fi : Nat → Int32} (h : Wd D lgN sB wB fbN fxN scN pcN nd fbA lgA bs bw ndM co pa fi) : ∀ n d, n < 3 → d < 6 → fxN n d = fi (6 * n + d) := h.2.2.2.2.2.2.2.2.2.1
theorem Wd.sc {D : Nat} {lgN sB wB : Nat → Nat} {fbN : Nat → Int32} {fxN scN pcN : Nat → Nat → Int32} {nd fbA lgA bs bw ndM co pa fi : Nat → Int32} (h : Wd D lgN sB wB fbN fxN scN pcN nd fbA lgA bs bw ndM co pa fi) : ∀ n k, n < 3 → k < 24 → scN n k = co (24 * n + k) := h.2.2.2.2.2.2.2.2.2.2.1
theorem Wd.pc {D : Nat} {lgN sB wB : Nat → Nat} {fbN : Nat → Int32} {fxN scN pcN : Nat → Nat → Int32} {nd fbA lgA bs bw ndM co pa fi : Nat → Int32} (h : Wd D lgN sB wB fbN fxN scN pcN nd fbA lgA bs bw ndM co pa fi) : ∀ n k, n < 3 → k < 16 → pcN n k = pa (16 * n + k) := h.2.2.2.2.2.2.2.2.2.2.2.1
theorem Wd.nd {D : Nat} {lgN sB wB : Nat → Nat} {fbN : Nat → Int32} {fxN scN pcN : Nat → Nat → Int32} {nd fbA lgA bs bw ndM co pa fi : Nat → Int32} (h : Wd D lgN sB wB fbN fxN scN pcN nd fbA lgA bs bw ndM co pa fi) : ∀ k, k < 24 → nd k = ndM k := h.2.2.2.2.2.2.2.2.2.2.2.2.1
theorem Wd.lco {D : Nat} {lgN sB wB : Nat → Nat} {fbN : Nat → Int32} {fxN scN pcN : Nat → Nat → Int32} {nd fbA lgA bs bw ndM co pa fi : Nat → Int32} (h : Wd D lgN sB wB fbN fxN scN pcN nd fbA lgA bs bw ndM co pa fi) : Lim 72 99 co := h.2.2.2.2.2.2.2.2.2.2.2.2.2.1
theorem Wd.lpa {D : Nat} {lgN sB wB : Nat → Nat} {fbN : Nat → Int32} {fxN scN pcN : Nat → Nat → Int32} {nd fbA lgA bs bw ndM co pa fi : Nat → Int32} (h : Wd D lgN sB wB fbN fxN scN pcN nd fbA lgA bs bw ndM co pa fi) : Lim 48 99 pa := h.2.2.2.2.2.2.2.2.2.2.2.2.2.2.1
theorem Wd.lnd {D : Nat} {lgN sB wB : Nat → Nat} {fbN : Nat → Int32} {fxN scN pcN : Nat → Nat → Int32} {nd fbA lgA bs bw ndM co pa fi : Nat → Int32} (h : Wd D lgN sB wB fbN fxN scN pcN nd fbA lgA bs bw ndM co pa fi) : Lim 24 3 ndM := h.2.2.2.2.2.2.2.2.2.2.2.2.2.2.2
theorem rf_ok_congr {s0 w0 lg D : Nat} {fb : Int32} {fx fx' : Nat → Int32} (h : ∀ d, d < D → fx d = fx' d) : ∀ d, d ≤ D → ∀ c, rf_ok s0 w0 lg fb fx d c = rf_ok s0 w0 lg fb fx' d c := by
  intro d
  induction d with
  | zero => intro _ c; rfl
  | succ d ih =>
    intro hd c
    unfold rf_ok
    rw [ih (by omega), h d (by omega)]
theorem rf_p_congr {s0 : Nat} {sc pc sc' pc' : Nat → Int32} (hs0 : s0 < 4) (h1 : ∀ k, k < 24 → sc k = sc' k) (h2 : ∀ k, k < 16 → pc k = pc' k) : ∀ d, d ≤ 6 → ∀ c, rf_p s0 sc pc d c = rf_p s0 sc' pc' d c := by
  intro d
  induction d with
  | zero => intro _ c; rfl
  | succ d ih =>
    intro hd c
    unfold rf_p
    have := rf_l_lt hs0 d (c / 4)
    rw [ih (by omega), h1 (4 * d + c % 4) (by omega), h2 (4 * rf_l s0 d (c / 4) + c % 4) (by omega)]
theorem rf_q_congr {q q' : Nat → Int32} (h : ∀ k, k < 24 → q k = q' k) : ∀ d, d ≤ 6 → ∀ c, rf_q q d c = rf_q q' d c := by
  intro d
  induction d with
  | zero => intro _ c; rfl
  | succ d ih =>
    intro hd c
    unfold rf_q
    rw [ih (by omega), h (4 * d + c % 4) (by omega)]
theorem Wd.lsc {D : Nat} {lgN sB wB : Nat → Nat} {fbN : Nat → Int32} {fxN scN pcN : Nat → Nat → Int32} {nd fbA lgA bs bw ndM co pa fi : Nat → Int32} (W : Wd D lgN sB wB fbN fxN scN pcN nd fbA lgA bs bw ndM co pa fi) {n : Nat} (hn : n < 3) : Lim 24 99 (scN n) := by
  intro k hk
  rw [W.sc n k hn hk]
  exact W.lco _ (by omega)
theorem Wd.lpc {D : Nat} {lgN sB wB : Nat → Nat} {fbN : Nat → Int32} {fxN scN pcN : Nat → Nat → Int32} {nd fbA lgA bs bw ndM co pa fi : Nat → Int32} (W : Wd D lgN sB wB fbN fxN scN pcN nd fbA lgA bs bw ndM co pa fi) {n : Nat} (hn : n < 3) : Lim 16 99 (pcN n) := by
  intro k hk
  rw [W.pc n k hn hk]
  exact W.lpa _ (by omega)
theorem Wd.lnd' {D : Nat} {lgN sB wB : Nat → Nat} {fbN : Nat → Int32} {fxN scN pcN : Nat → Nat → Int32} {nd fbA lgA bs bw ndM co pa fi : Nat → Int32} (W : Wd D lgN sB wB fbN fxN scN pcN nd fbA lgA bs bw ndM co pa fi) : Lim 24 3 nd := by
  intro k hk
  rw [W.nd k hk]
  exact W.lnd k hk
theorem Wd.w4 {D : Nat} {lgN sB wB : Nat → Nat} {fbN : Nat → Int32} {fxN scN pcN : Nat → Nat → Int32} {nd fbA lgA bs bw ndM co pa fi : Nat → Int32} (W : Wd D lgN sB wB fbN fxN scN pcN nd fbA lgA bs bw ndM co pa fi) {n : Nat} (hn : n < 3) : wB n ≤ 4 := by
  have := W.wB n hn
  omega
theorem Wd.sot {D : Nat} {lgN sB wB : Nat → Nat} {fbN : Nat → Int32} {fxN scN pcN : Nat → Nat → Int32} {nd fbA lgA bs bw ndM co pa fi : Nat → Int32} (W : Wd D lgN sB wB fbN fxN scN pcN nd fbA lgA bs bw ndM co pa fi) {n : Nat} (hn : n < 3) : so (sB n) (wB n) < 13 := so_lt (W.sB n hn) (W.w4 hn)
/-- a line of nurse n is legal, as class and reference both say -/
def lok (D : Nat) (lgN sB wB : Nat → Nat) (fbN : Nat → Int32) (fxN : Nat → Nat → Int32) (n c : Nat) : Bool := rf_ok (sB n) (wB n) (lgN n) (fbN n) (fxN n) D c
def lpen (D : Nat) (sB : Nat → Nat) (scN pcN : Nat → Nat → Int32) (n c : Nat) : Int := rf_p (sB n) (scN n) (pcN n) D c
theorem ok_ref {D : Nat} {lgN sB wB : Nat → Nat} {fbN : Nat → Int32} {fxN scN pcN : Nat → Nat → Int32} {nd fbA lgA bs bw ndM co pa fi : Nat → Int32} (W : Wd D lgN sB wB fbN fxN scN pcN nd fbA lgA bs bw ndM co pa fi) {n : Nat} (hn : n < 3) : rf_ok (sB n) (wB n) (lgN n) (fbA n) (fun d => fi (6 * n + d)) D = lok D lgN sB wB fbN fxN n := by
  funext c
  have hD := W.hD
  unfold lok
  rw [← W.fb n hn]
  exact (rf_ok_congr (fun d hd => (W.fx n d hn (by omega))) D (Nat.le_refl D) c).symm
theorem pen_ref {D : Nat} {lgN sB wB : Nat → Nat} {fbN : Nat → Int32} {fxN scN pcN : Nat → Nat → Int32} {nd fbA lgA bs bw ndM co pa fi : Nat → Int32} (W : Wd D lgN sB wB fbN fxN scN pcN nd fbA lgA bs bw ndM co pa fi) {n : Nat} (hn : n < 3) (c : Nat) : rf_p (sB n) (fun k => co (24 * n + k)) (fun k => pa (16 * n + k)) D c = lpen D sB scN pcN n c := (rf_p_congr (W.sB n hn) (fun k hk => W.sc n k hn hk) (fun k hk => W.pc n k hn hk) D W.hD c).symm
/-- class and reference pick the same priced line -/
def Lin (D : Nat) (lgN sB wB : Nat → Nat) (fbN : Nat → Int32) (fxN scN pcN : Nat → Nat → Int32) (q : Nat → Int32) (n : Nat) (z : Int) (pick : Int32) : Prop := (z = NO ∧ pick = -1 ∧ ∀ c, c < 4 ^ D → lok D lgN sB wB fbN fxN n c = false) ∨ ∃ c, c < 4 ^ D ∧ lok D lgN sB wB fbN fxN n c = true ∧ pick = mI c ∧ z = (lpen D sB scN pcN n c - rf_q q D c) * 2 ^ 36 + rf_g n D c
theorem ag_line {fu D n : Nat} {lgN sB wB : Nat → Nat} {fbN : Nat → Int32} {fxN scN pcN : Nat → Nat → Int32} {nd fbA lgA bs bw ndM co pa fi q qm : Nat → Int32} (hfu : 4096 < fu) (W : Wd D lgN sB wB fbN fxN scN pcN nd fbA lgA bs bw ndM co pa fi) (hn : n < 3) (hq : Lim 24 999 q) (hqm : ∀ k, k < 24 → q k = qm k) :
    ∃ z pick, Lin D lgN sB wB fbN fxN scN pcN q n z pick ∧ (∀ k nk w nw, ∃ k' nk' w' nw', f_Lw_walkLines fu k nk w nw (mI n) (fbN n) (mI (lgN n)) (mI (so (sB n) (wB n))) (mI D) (scN n) (pcN n) (fxN n) q = some (jJ z, k', nk', w', nw')) ∧ ∀ l0 p0, ∃ l1 p1, f_Wm_pricedLine fu (mI n) (mI D) l0 p0 fbA lgA bs bw co pa fi qm = some (pick, l1, p1) := by
  have hD := W.hD
  have hw' : (sB n = 0 ∧ wB n = 0) ∨ (sB n ≠ 0 ∧ 1 ≤ wB n) := by have := W.wB n hn; omega
  have key : ∀ k nk w nw, ∃ z k' nk' w' nw', f_Lw_walkLines fu k nk w nw (mI n) (fbN n) (mI (lgN n)) (mI (so (sB n) (wB n))) (mI D) (scN n) (pcN n) (fxN n) q = some (jJ z, k', nk', w', nw') ∧ IsMin (fun c => (dp_T (cl_d D (lgN n) (fbN n) (fxN n)) (so (sB n) (wB n)) D c).isSome) (dp_K (cl_d D (lgN n) (fbN n) (fxN n)) (cl_k n (scN n) (pcN n) q) (so (sB n) (wB n)) D) z := by
    intro k nk w nw
    obtain ⟨z, k', nk', w', nw', h1, h2, _⟩ := p_walkLines (fu := fu) (k := k) (nk := nk) (w := w) (nw := nw) (fb := fbN n) (fx := fxN n) (by omega) hD hn (W.sot hn) (W.lg n hn) (W.lsc hn) (W.lpc hn) hq
    exact ⟨z, k', nk', w', nw', h1, h2⟩
  obtain ⟨z, _, _, _, _, _, hz⟩ := key (fun _ => 0) (fun _ => 0) (fun _ => 0) (fun _ => 0)
  have hqm' : Lim 24 999 qm := fun k hk => by rw [← hqm k hk]; exact hq k hk
  have key2 : ∀ l0 p0, ∃ pick l1 p1, f_Wm_pricedLine fu (mI n) (mI D) l0 p0 fbA lgA bs bw co pa fi qm = some (pick, l1, p1) ∧ Lin D lgN sB wB fbN fxN scN pcN q n z pick := by
    intro l0 p0
    obtain ⟨pick, worth, l1, p1, g1, g2⟩ := p_pricedLineR (fu := fu) (l0 := l0) (p0 := p0) (fbA := fbA) (fi := fi) hfu hn hD (W.sB n hn) (W.w4 hn) (W.lg n hn) (W.bs n hn) (W.bw n hn) (W.la n hn) (fun k hk => W.lco _ (by omega)) (fun k hk => W.lpa _ (by omega)) hqm'
    have e2 : (fun c => rf_p (sB n) (fun k => co (24 * n + k)) (fun k => pa (16 * n + k)) D c - rf_q qm D c) = fun c => rf_p (sB n) (scN n) (pcN n) D c - rf_q q D c := by
      funext c
      rw [pen_ref W hn c, rf_q_congr hqm D hD c]; rfl
    rw [ok_ref W hn, e2] at g2
    refine ⟨pick, l1, p1, g1, ?_⟩
    rcases agree_pick hn W.hD1 hD (W.sB n hn) hw' hz g2 with ⟨a1, a2⟩ | a
    · refine .inl ⟨a1, a2, ?_⟩
      rcases g2 with ⟨_, b⟩ | ⟨c, b1, _, b3, _⟩
      · exact b
      · exfalso
        have := pow46 hD
        rw [b3] at a2
        exact mI_ne_neg (by omega) a2
    · exact .inr a
  obtain ⟨pick, _, _, _, hL⟩ := key2 0 0
  refine ⟨z, pick, hL, fun k nk w nw => ?_, fun l0 p0 => ?_⟩
  · obtain ⟨z', k', nk', w', nw', h1, h2⟩ := key k nk w nw
    rw [isMin_uniq hz h2]
    exact ⟨k', nk', w', nw', h1⟩
  · obtain ⟨pick', l1, p1, h1, h2⟩ := key2 l0 p0
    refine ⟨l1, p1, ?_⟩
    rw [h1]
    have hp4 := pow46 hD
    have hN : NO = 2 ^ 62 := by decide
    have : pick' = pick := by
      rcases hL with ⟨a1, a2, a3⟩ | ⟨c, a1, a2, a3, a4⟩
      · rcases h2 with ⟨b1, b2, b3⟩ | ⟨c, b1, b2, b3, b4⟩
        · rw [a2, b2]
        · rw [a3 c b1] at b2; cases b2
      · rcases h2 with ⟨b1, b2, b3⟩ | ⟨c', b1, b2, b3, b4⟩
        · rw [b3 c a1] at a2; cases a2
        · have g1 := g_bd hn W.hD1 hD c
          have g2 := g_bd hn W.hD1 hD c'
          rw [a3, b3]
          by_cases hc : c = c'
          · rw [hc]
          · rcases Nat.lt_or_gt_of_ne hc with hlt | hlt
            · have := g_lt hn W.hD1 hD hlt b1
              omega
            · have := g_lt hn W.hD1 hD hlt a1
              omega
    rw [this]
