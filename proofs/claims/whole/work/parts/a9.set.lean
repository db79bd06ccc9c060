/-! settings: what class and reference hold after a change -/
theorem i_nat {x : Int32} (h : 0 ≤ x.toInt) : x = mI x.toInt.toNat := by
  rw [mI_iI, Int.toNat_of_nonneg h]
  exact i_of x
theorem not_lt_i {x : Int32} {a : Int} (h1 : -2 ^ 31 ≤ a) (h2 : a < 2 ^ 31) : (¬ x < iI a) ↔ a ≤ x.toInt := by
  rw [Int32.lt_iff_toInt_lt, iI_toInt h1 h2]
  omega
theorem lt_i {x : Int32} {a : Int} (h1 : -2 ^ 31 ≤ a) (h2 : a < 2 ^ 31) : (x < iI a) ↔ x.toInt < a := by
  rw [Int32.lt_iff_toInt_lt, iI_toInt h1 h2]
theorem le_i {x : Int32} {a : Int} (h1 : -2 ^ 31 ≤ a) (h2 : a < 2 ^ 31) : (x ≤ iI a) ↔ x.toInt ≤ a := by
  rw [Int32.le_iff_toInt_le, iI_toInt h1 h2]
theorem p_forget {fu : Nat} {q : Nat → Int32} (hfu : 24 < fu) : ∃ q', f_Wr_forgetAnswers fu q = some (0, -1, 0, q') ∧ ∀ k, k < 24 → q' k = 0 := by
  obtain ⟨g, h1, h2, _⟩ := p_fill_I (fu := fu) (n := 24) (x := 0) (f := q) (by omega) hfu
  refine ⟨g, ?_, h2⟩
  unfold f_Wr_forgetAnswers f_Pr_clear
  rw [h1, sb, sb]
theorem q_zero {fu N : Nat} {b : Int32 × (Nat → Int32) → Option ((Int32 × (Nat → Int32)) ⊕ (Int32 × (Nat → Int32)))} {x : Int32} {g : Nat → Int32} (hfu : N < fu) (hN : N < 2 ^ 31) (hb : ∀ vv, b vv = if mI N ≤ vv.1 then some (.inr (vv.1, vv.2)) else (si N vv.2 vv.1 x).bind fun w => some (.inl ((vv.1 + 1), w))) : ∃ r, iter b fu (mI 0, g) = some r ∧ ∀ k, k < N → r.2 k = x := by
  refine iter_for (N := N) (fun k (s : Int32 × (Nat → Int32)) => s.1 = mI k ∧ ∀ j, j < k → s.2 j = x) (P := fun (r : Int32 × (Nat → Int32)) => ∀ k, k < N → r.2 k = x) ?_ ?_ fu 0 (mI 0, g) (by omega) (by omega) ⟨rfl, fun j hj => by omega⟩
  · rintro k ⟨i, g⟩ hk ⟨rfl, hg⟩
    rw [hb]
    dsimp only
    rw [if_neg (fun q => absurd ((mI_le (by omega) (by omega)).1 q) (by omega)), si_n hk hN, sb, mI_1]
    refine ⟨_, rfl, rfl, fun j hj => ?_⟩
    dsimp only
    rw [upd_at]
    by_cases e : j = k
    · rw [if_pos e]
    · rw [if_neg e]; exact hg j (by omega)
  · rintro ⟨i, g⟩ ⟨rfl, hg⟩
    refine ⟨(mI N, g), ?_, hg⟩
    rw [hb]
    dsimp only
    rw [if_pos ((mI_le (by omega) (by omega)).2 (by omega))]
theorem p_change {fu : Nat} {q : Nat → Int32} (hfu : 24 < fu) : ∃ q', f_Wm_change fu q = some (0, -1, 0, q') ∧ ∀ k, k < 24 → q' k = 0 := by
  obtain ⟨r, h1, h2⟩ := q_zero (N := 24) (b := f_Wm_change_l17) (x := 0) (g := q) hfu (by omega) (fun vv => rfl)
  refine ⟨r.2, ?_, h2⟩
  unfold f_Wm_change
  show (iter _ fu (mI 0, q)).bind _ = _
  rw [h1, sb]
theorem pr_new {D : Nat} {q qm : Nat → Int32} (h1 : ∀ k, k < 24 → q k = 0) (h2 : ∀ k, k < 24 → qm k = 0) : PR D (-1) 0 q 0 (-1) qm := by
  refine ⟨rfl, fun k hk => by rw [h1 k hk, h2 k hk], lim_np h1, fun k hk _ => h1 k hk, fun _ => ⟨rfl, h1⟩, fun h => absurd rfl h⟩
theorem p_NuClear {fu : Nat} {v : Int32} {sc pc fx : Nat → Int32} (hfu : 24 < fu) : ∃ sc' pc' fx', f_Nu_clear fu v sc pc fx = some (0, 4, 0, v, sc', pc', fx') ∧ (∀ k, k < 24 → sc' k = 0) ∧ (∀ k, k < 16 → pc' k = 0) ∧ ∀ k, k < 6 → fx' k = -1 := by
  obtain ⟨g1, h1, h2, _⟩ := p_fill_I (fu := fu) (n := 24) (x := 0) (f := sc) (by omega) hfu
  obtain ⟨g2, h3, h4, _⟩ := p_fill_I (fu := fu) (n := 16) (x := 0) (f := pc) (by omega) (by omega)
  obtain ⟨g3, h5, h6, _⟩ := p_fill_I (fu := fu) (n := 6) (x := -1) (f := fx) (by omega) (by omega)
  refine ⟨g1, g2, g3, ?_, h2, h4, h6⟩
  unfold f_Nu_clear
  rw [h1, sb, h3, sb, h5, sb]
theorem q_begin7 {fu : Nat} {a b c d : Nat → Int32} (hfu : 3 < fu) : ∃ r, iter f_Wm_begin_l7 fu (mI 0, a, b, c, d) = some r ∧ ∀ n, n < 3 → r.2.1 n = 0 ∧ r.2.2.1 n = 4 ∧ r.2.2.2.1 n = 0 ∧ r.2.2.2.2 n = 0 := by
  refine iter_for (N := 3) (fun n (s : Int32 × (Nat → Int32) × (Nat → Int32) × (Nat → Int32) × (Nat → Int32)) => s.1 = mI n ∧ ∀ m, m < n → s.2.1 m = 0 ∧ s.2.2.1 m = 4 ∧ s.2.2.2.1 m = 0 ∧ s.2.2.2.2 m = 0) (P := fun (r : Int32 × (Nat → Int32) × (Nat → Int32) × (Nat → Int32) × (Nat → Int32)) => ∀ n, n < 3 → r.2.1 n = 0 ∧ r.2.2.1 n = 4 ∧ r.2.2.2.1 n = 0 ∧ r.2.2.2.2 n = 0) ?_ ?_ fu 0 (mI 0, a, b, c, d) (by omega) (by omega) ⟨rfl, fun m hm => by omega⟩
  · rintro n ⟨i, a, b, c, d⟩ hn ⟨rfl, hs⟩
    unfold f_Wm_begin_l7
    dsimp only
    rw [if_neg (show ¬ (3 : Int32) ≤ mI n from fun q => absurd ((mI_le (a := 3) (by omega) (by omega)).1 q) (by omega)), si_n hn (by omega), sb, si_n hn (by omega), sb, si_n hn (by omega), sb, si_n hn (by omega), sb, mI_1]
    refine ⟨_, rfl, rfl, fun m hm => ?_⟩
    dsimp only
    rw [upd_at, upd_at, upd_at, upd_at]
    by_cases e : m = n
    · rw [if_pos e, if_pos e, if_pos e, if_pos e]; exact ⟨rfl, rfl, rfl, rfl⟩
    · rw [if_neg e, if_neg e, if_neg e, if_neg e]; exact hs m (by omega)
  · rintro ⟨i, a, b, c, d⟩ ⟨rfl, hs⟩
    refine ⟨(mI 3, a, b, c, d), ?_, hs⟩
    unfold f_Wm_begin_l7
    dsimp only
    rw [if_pos (show (3 : Int32) ≤ mI 3 from (mI_le (a := 3) (by omega) (by omega)).2 (by omega))]
theorem p_begin {fu : Nat} {v : Int32} {fb lg bs bw nd co pa fi q : Nat → Int32} (hfu : 72 < fu) : ∃ fb' lg' bs' bw' nd' co' pa' fi' q', f_Wm_begin fu v fb lg bs bw nd co pa fi q = some (v, 0, -1, 0, 0, fb', lg', bs', bw', nd', co', pa', fi', q') ∧ (∀ n, n < 3 → fb' n = 0 ∧ lg' n = 4 ∧ bs' n = 0 ∧ bw' n = 0) ∧ (∀ k, k < 24 → nd' k = 0) ∧ (∀ k, k < 72 → co' k = 0) ∧ (∀ k, k < 48 → pa' k = 0) ∧ (∀ k, k < 18 → fi' k = -1) ∧ ∀ k, k < 24 → q' k = 0 := by
  obtain ⟨r7, a1, a2⟩ := q_begin7 (a := fb) (b := lg) (c := bs) (d := bw) (by omega : 3 < fu)
  obtain ⟨r48, b1, b2⟩ := q_zero (N := 24) (b := f_Wm_begin_l48) (x := 0) (g := nd) (by omega : 24 < fu) (by omega) (fun vv => rfl)
  obtain ⟨r69, c1, c2⟩ := q_zero (N := 72) (b := f_Wm_begin_l69) (x := 0) (g := co) hfu (by omega) (fun vv => rfl)
  obtain ⟨r90, d1, d2⟩ := q_zero (N := 48) (b := f_Wm_begin_l90) (x := 0) (g := pa) (by omega : 48 < fu) (by omega) (fun vv => rfl)
  obtain ⟨r111, e1, e2⟩ := q_zero (N := 18) (b := f_Wm_begin_l111) (x := -1) (g := fi) (by omega : 18 < fu) (by omega) (fun vv => rfl)
  obtain ⟨q', f1, f2⟩ := p_change (q := q) (by omega : 24 < fu)
  refine ⟨r7.2.1, r7.2.2.1, r7.2.2.2.1, r7.2.2.2.2, r48.2, r69.2, r90.2, r111.2, q', ?_, a2, b2, c2, d2, e2, f2⟩
  unfold f_Wm_begin
  show (iter _ fu (mI 0, fb, lg, bs, bw)).bind _ = _
  rw [a1, sb]
  show (iter _ fu (mI 0, nd)).bind _ = _
  rw [b1, sb]
  show (iter _ fu (mI 0, co)).bind _ = _
  rw [c1, sb]
  show (iter _ fu (mI 0, pa)).bind _ = _
  rw [d1, sb]
  show (iter _ fu (mI 0, fi)).bind _ = _
  rw [e1, sb, f1, sb]
theorem wd_new {D : Nat} {fbN : Nat → Int32} {fxN scN pcN : Nat → Nat → Int32} {nd fbA lgA bs bw ndM co pa fi : Nat → Int32} (hD1 : 1 ≤ D) (hD : D ≤ 6) (h1 : ∀ n, n < 3 → fbN n = 0) (h2 : ∀ n k, n < 3 → k < 24 → scN n k = 0) (h3 : ∀ n k, n < 3 → k < 16 → pcN n k = 0) (h4 : ∀ n d, n < 3 → d < 6 → fxN n d = -1) (h5 : ∀ k, k < 24 → nd k = 0) (g1 : ∀ n, n < 3 → fbA n = 0 ∧ lgA n = 4 ∧ bs n = 0 ∧ bw n = 0) (g2 : ∀ k, k < 24 → ndM k = 0) (g3 : ∀ k, k < 72 → co k = 0) (g4 : ∀ k, k < 48 → pa k = 0) (g5 : ∀ k, k < 18 → fi k = -1) : Wd D (fun _ => 4) (fun _ => 0) (fun _ => 0) fbN fxN scN pcN nd fbA lgA bs bw ndM co pa fi := by
  refine ⟨hD1, hD, fun n hn => Nat.le_refl 4, fun n hn => (g1 n hn).2.1, fun n hn => by show 0 < 4; omega, fun n hn => .inl ⟨rfl, rfl⟩, fun n hn => (g1 n hn).2.2.1, fun n hn => (g1 n hn).2.2.2, fun n hn => by rw [h1 n hn, (g1 n hn).1], fun n d hn hd => by rw [h4 n d hn hd, g5 _ (by omega)], fun n k hn hk => by rw [h2 n k hn hk, g3 _ (by omega)], fun n k hn hk => by rw [h3 n k hn hk, g4 _ (by omega)], fun k hk => by rw [h5 k hk, g2 k hk], fun k hk => by rw [g3 k hk]; decide, fun k hk => by rw [g4 k hk]; decide, fun k hk => by rw [g2 k hk]; decide⟩
theorem wd_contract {D n g : Nat} {f : Int32} {lgN lgN' sB wB : Nat → Nat} {fbN fbN' : Nat → Int32} {fxN scN pcN : Nat → Nat → Int32} {nd fbA lgA bs bw ndM co pa fi : Nat → Int32} (W : Wd D lgN sB wB fbN fxN scN pcN nd fbA lgA bs bw ndM co pa fi) (hg : g ≤ 4) (h1 : fbN' n = f) (h2 : ∀ m, m < 3 → m ≠ n → fbN' m = fbN m) (h3 : lgN' n = g) (h4 : ∀ m, m < 3 → m ≠ n → lgN' m = lgN m) : Wd D lgN' sB wB fbN' fxN scN pcN nd (upd fbA n f) (upd lgA n (mI g)) bs bw ndM co pa fi := by
  refine ⟨W.hD1, W.hD, fun m hm => ?_, fun m hm => ?_, W.sB, W.wB, W.bs, W.bw, fun m hm => ?_, W.fx, W.sc, W.pc, W.nd, W.lco, W.lpa, W.lnd⟩
  · by_cases e : m = n
    · rw [e, h3]; exact hg
    · rw [h4 m hm e]; exact W.lg m hm
  · rw [upd_at]
    by_cases e : m = n
    · rw [if_pos e, e, h3]
    · rw [if_neg e, h4 m hm e]; exact W.la m hm
  · rw [upd_at]
    by_cases e : m = n
    · rw [if_pos e, e, h1]
    · rw [if_neg e, h2 m hm e]; exact W.fb m hm
theorem wd_before {D n s w : Nat} {lgN sB sB' wB wB' : Nat → Nat} {fbN : Nat → Int32} {fxN scN pcN : Nat → Nat → Int32} {nd fbA lgA bs bw ndM co pa fi : Nat → Int32} (W : Wd D lgN sB wB fbN fxN scN pcN nd fbA lgA bs bw ndM co pa fi) (hs : s < 4) (hw : (s = 0 ∧ w = 0) ∨ (s ≠ 0 ∧ 1 ≤ w ∧ w ≤ 4)) (h1 : sB' n = s) (h2 : ∀ m, m < 3 → m ≠ n → sB' m = sB m) (h3 : wB' n = w) (h4 : ∀ m, m < 3 → m ≠ n → wB' m = wB m) : Wd D lgN sB' wB' fbN fxN scN pcN nd fbA lgA (upd bs n (mI s)) (upd bw n (mI w)) ndM co pa fi := by
  refine ⟨W.hD1, W.hD, W.lg, W.la, fun m hm => ?_, fun m hm => ?_, fun m hm => ?_, fun m hm => ?_, W.fb, W.fx, W.sc, W.pc, W.nd, W.lco, W.lpa, W.lnd⟩
  · by_cases e : m = n
    · rw [e, h1]; exact hs
    · rw [h2 m hm e]; exact W.sB m hm
  · by_cases e : m = n
    · rw [e, h1, h3]; exact hw
    · rw [h2 m hm e, h4 m hm e]; exact W.wB m hm
  · rw [upd_at]
    by_cases e : m = n
    · rw [if_pos e, e, h1]
    · rw [if_neg e, h2 m hm e]; exact W.bs m hm
  · rw [upd_at]
    by_cases e : m = n
    · rw [if_pos e, e, h3]
    · rw [if_neg e, h4 m hm e]; exact W.bw m hm
theorem lim_upd {N j : Nat} {b : Int} {f : Nat → Int32} {x : Int32} (h : Lim N b f) (hx : 0 ≤ x.toInt ∧ x.toInt ≤ b) : Lim N b (upd f j x) := by
  intro k hk
  rw [upd_at]
  by_cases e : k = j
  · rw [if_pos e]; exact hx
  · rw [if_neg e]; exact h k hk
theorem wd_need {D j : Nat} {x : Int32} {lgN sB wB : Nat → Nat} {fbN : Nat → Int32} {fxN scN pcN : Nat → Nat → Int32} {nd fbA lgA bs bw ndM co pa fi : Nat → Int32} (W : Wd D lgN sB wB fbN fxN scN pcN nd fbA lgA bs bw ndM co pa fi) (hx : 0 ≤ x.toInt ∧ x.toInt ≤ 3) : Wd D lgN sB wB fbN fxN scN pcN (upd nd j x) fbA lgA bs bw (upd ndM j x) co pa fi := by
  refine ⟨W.hD1, W.hD, W.lg, W.la, W.sB, W.wB, W.bs, W.bw, W.fb, W.fx, W.sc, W.pc, fun k hk => ?_, W.lco, W.lpa, lim_upd W.lnd hx⟩
  rw [upd_at, upd_at, W.nd k hk]
theorem wd_cost {D n j : Nat} {x : Int32} {lgN sB wB : Nat → Nat} {fbN : Nat → Int32} {fxN scN scN' pcN : Nat → Nat → Int32} {nd fbA lgA bs bw ndM co pa fi : Nat → Int32} (W : Wd D lgN sB wB fbN fxN scN pcN nd fbA lgA bs bw ndM co pa fi) (hj : j < 24) (hx : 0 ≤ x.toInt ∧ x.toInt ≤ 99) (h1 : scN' n = upd (scN n) j x) (h2 : ∀ m, m < 3 → m ≠ n → scN' m = scN m) : Wd D lgN sB wB fbN fxN scN' pcN nd fbA lgA bs bw ndM (upd co (24 * n + j) x) pa fi := by
  refine ⟨W.hD1, W.hD, W.lg, W.la, W.sB, W.wB, W.bs, W.bw, W.fb, W.fx, fun m k hm hk => ?_, W.pc, W.nd, lim_upd W.lco hx, W.lpa, W.lnd⟩
  rw [upd_at]
  by_cases e : m = n
  · rw [e, h1, upd_at]
    by_cases e2 : k = j
    · rw [if_pos e2, if_pos (by rw [e2])]
    · rw [if_neg e2, if_neg (by omega), ← e]; exact W.sc m k hm hk
  · rw [h2 m hm e, if_neg (by omega)]; exact W.sc m k hm hk
theorem wd_pair {D n j : Nat} {x : Int32} {lgN sB wB : Nat → Nat} {fbN : Nat → Int32} {fxN scN pcN pcN' : Nat → Nat → Int32} {nd fbA lgA bs bw ndM co pa fi : Nat → Int32} (W : Wd D lgN sB wB fbN fxN scN pcN nd fbA lgA bs bw ndM co pa fi) (hj : j < 16) (hx : 0 ≤ x.toInt ∧ x.toInt ≤ 99) (h1 : pcN' n = upd (pcN n) j x) (h2 : ∀ m, m < 3 → m ≠ n → pcN' m = pcN m) : Wd D lgN sB wB fbN fxN scN pcN' nd fbA lgA bs bw ndM co (upd pa (16 * n + j) x) fi := by
  refine ⟨W.hD1, W.hD, W.lg, W.la, W.sB, W.wB, W.bs, W.bw, W.fb, W.fx, W.sc, fun m k hm hk => ?_, W.nd, W.lco, lim_upd W.lpa hx, W.lnd⟩
  rw [upd_at]
  by_cases e : m = n
  · rw [e, h1, upd_at]
    by_cases e2 : k = j
    · rw [if_pos e2, if_pos (by rw [e2])]
    · rw [if_neg e2, if_neg (by omega), ← e]; exact W.pc m k hm hk
  · rw [h2 m hm e, if_neg (by omega)]; exact W.pc m k hm hk
theorem wd_fix {D n j : Nat} {x : Int32} {lgN sB wB : Nat → Nat} {fbN : Nat → Int32} {fxN fxN' scN pcN : Nat → Nat → Int32} {nd fbA lgA bs bw ndM co pa fi : Nat → Int32} (W : Wd D lgN sB wB fbN fxN scN pcN nd fbA lgA bs bw ndM co pa fi) (hj : j < 6) (h1 : fxN' n = upd (fxN n) j x) (h2 : ∀ m, m < 3 → m ≠ n → fxN' m = fxN m) : Wd D lgN sB wB fbN fxN' scN pcN nd fbA lgA bs bw ndM co pa (upd fi (6 * n + j) x) := by
  refine ⟨W.hD1, W.hD, W.lg, W.la, W.sB, W.wB, W.bs, W.bw, W.fb, fun m k hm hk => ?_, W.sc, W.pc, W.nd, W.lco, W.lpa, W.lnd⟩
  rw [upd_at]
  by_cases e : m = n
  · rw [e, h1, upd_at]
    by_cases e2 : k = j
    · rw [if_pos e2, if_pos (by rw [e2])]
    · rw [if_neg e2, if_neg (by omega), ← e]; exact W.fx m k hm hk
  · rw [h2 m hm e, if_neg (by omega)]; exact W.fx m k hm hk
