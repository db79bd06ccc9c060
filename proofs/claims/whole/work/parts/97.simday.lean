/-! one day of class and reference side by side -/
def CR (D : Nat) (fbN : Nat → Int32) (fxN scN pcN : Nat → Nat → Int32) (ch : Nat → Nat → Bool) (fbA fi co pa pl : Nat → Int32) (rep : Int32) : Prop := (∀ n, n < 3 → fbN n = fbA n) ∧ (∀ n d, n < 3 → d < 6 → fxN n d = fi (6 * n + d)) ∧ (∀ n k, n < 3 → k < 24 → scN n k = co (24 * n + k)) ∧ (∀ n k, n < 3 → k < 16 → pcN n k = pa (16 * n + k)) ∧ (∀ n d s, n < 3 → d < D → s < 4 → ch (3 * d + n) s = chR rep pl n d s)
theorem CR.fb {D : Nat} {fbN : Nat → Int32} {fxN scN pcN : Nat → Nat → Int32} {ch : Nat → Nat → Bool} {fbA fi co pa pl : Nat → Int32} {rep : Int32} (h : CR D fbN fxN scN pcN ch fbA fi co pa pl rep) : ∀ n, n < 3 → fbN n = fbA n := h.1
theorem CR.fx {D : Nat} {fbN : Nat → Int32} {fxN scN pcN : Nat → Nat → Int32} {ch : Nat → Nat → Bool} {fbA fi co pa pl : Nat → Int32} {rep : Int32} (h : CR D fbN fxN scN pcN ch fbA fi co pa pl rep) : ∀ n d, n < 3 → d < 6 → fxN n d = fi (6 * n + d) := h.2.1
theorem CR.sc {D : Nat} {fbN : Nat → Int32} {fxN scN pcN : Nat → Nat → Int32} {ch : Nat → Nat → Bool} {fbA fi co pa pl : Nat → Int32} {rep : Int32} (h : CR D fbN fxN scN pcN ch fbA fi co pa pl rep) : ∀ n k, n < 3 → k < 24 → scN n k = co (24 * n + k) := h.2.2.1
theorem CR.pc {D : Nat} {fbN : Nat → Int32} {fxN scN pcN : Nat → Nat → Int32} {ch : Nat → Nat → Bool} {fbA fi co pa pl : Nat → Int32} {rep : Int32} (h : CR D fbN fxN scN pcN ch fbA fi co pa pl rep) : ∀ n k, n < 3 → k < 16 → pcN n k = pa (16 * n + k) := h.2.2.2.1
theorem CR.ch {D : Nat} {fbN : Nat → Int32} {fxN scN pcN : Nat → Nat → Int32} {ch : Nat → Nat → Bool} {fbA fi co pa pl : Nat → Int32} {rep : Int32} (h : CR D fbN fxN scN pcN ch fbA fi co pa pl rep) : ∀ n d s, n < 3 → d < D → s < 4 → ch (3 * d + n) s = chR rep pl n d s := h.2.2.2.2
theorem tr_01 {D : Nat} {lgN : Nat → Nat} {fbN : Nat → Int32} {fxN : Nat → Nat → Int32} {nd : Nat → Int32} {p t s : Nat} (h : p % 3 ≠ 2) : tr_d D lgN fbN fxN nd p t s = tr_r D lgN fbN fxN p t s := by
  unfold tr_d tr_ok
  rw [decide_eq_false h]
  cases tr_r D lgN fbN fxN p t s <;> rfl
theorem tr_n {D d n : Nat} {lgN : Nat → Nat} {fbN : Nat → Int32} {fxN : Nat → Nat → Int32} {t s : Nat} (hn : n < 3) : tr_r D lgN fbN fxN (3 * d + n) t s = (cl_d D (lgN n) (fbN n) (fxN n) d (st3 t n) s).map (nx n t) := by
  unfold tr_r
  rw [show (3 * d + n) % 3 = n by omega, show (3 * d + n) / 3 = d by omega]
theorem sim_day {D d t u k : Nat} {lgN : Nat → Nat} {fbN : Nat → Int32} {fxN scN pcN : Nat → Nat → Int32} {ch : Nat → Nat → Bool} {fbA fi co pa pl nd : Nat → Int32} {rep : Int32} (hD : D ≤ 6) (hd : d < D) (hlg : ∀ n, n < 3 → lgN n ≤ 4) (H : CR D fbN fxN scN pcN ch fbA fi co pa pl rep) (ht : t < 2197) (hk : k < 64) (hR : ∀ n, n < 3 → Rn D (lgN n) d (st3 t n) (st3 u n)) :
    (((tr_d D lgN fbN fxN nd (3 * d) t (k / 16)).bind fun t1 => (tr_d D lgN fbN fxN nd (3 * d + 1) t1 (k / 4 % 4)).bind fun t2 => tr_d D lgN fbN fxN nd (3 * d + 2) t2 (k % 4)) = none ∧ rS lgN fbA fi nd d u k = none) ∨ ∃ t1 t2 t' u', tr_d D lgN fbN fxN nd (3 * d) t (k / 16) = some t1 ∧ tr_d D lgN fbN fxN nd (3 * d + 1) t1 (k / 4 % 4) = some t2 ∧ tr_d D lgN fbN fxN nd (3 * d + 2) t2 (k % 4) = some t' ∧ rS lgN fbA fi nd d u k = some u' ∧ t' < 2197 ∧ u' < 2197 ∧ (∀ n, n < 3 → Rn D (lgN n) (d + 1) (st3 t' n) (st3 u' n)) ∧ st3 t1 1 = st3 t 1 ∧ st3 t2 2 = st3 t 2 := by
  have hi : k / 16 < 4 := by omega
  have hj : k / 4 % 4 < 4 := by omega
  have hl : k % 4 < 4 := by omega
  have hfx : ∀ n, n < 3 → fxN n d = (fun d => fi (6 * n + d)) d := fun n hn => H.fx n d hn (by omega)
  have st : ∀ n s, n < 3 → s < 4 → (cl_d D (lgN n) (fbN n) (fxN n) d (st3 t n) s = none ∧ rA lgN fbA fi n d u s = none) ∨ ∃ x' y', cl_d D (lgN n) (fbN n) (fxN n) d (st3 t n) s = some x' ∧ rA lgN fbA fi n d u s = some y' ∧ Rn D (lgN n) (d + 1) x' y' := by
    intro n s hn hs
    unfold rA
    rw [← H.fb n hn]
    exact rn_step (hlg n hn) hd hs (hfx n hn) (hR n hn)
  have e0 : ∀ t, tr_d D lgN fbN fxN nd (3 * d) t (k / 16) = (cl_d D (lgN 0) (fbN 0) (fxN 0) d (st3 t 0) (k / 16)).map (nx 0 t) := fun t => by rw [tr_01 (by omega)]; exact tr_n (n := 0) (by omega)
  have e1 : ∀ t, tr_d D lgN fbN fxN nd (3 * d + 1) t (k / 4 % 4) = (cl_d D (lgN 1) (fbN 1) (fxN 1) d (st3 t 1) (k / 4 % 4)).map (nx 1 t) := fun t => by rw [tr_01 (by omega)]; exact tr_n (n := 1) (by omega)
  have e2 : ∀ t, tr_d D lgN fbN fxN nd (3 * d + 2) t (k % 4) = ((cl_d D (lgN 2) (fbN 2) (fxN 2) d (st3 t 2) (k % 4)).map (nx 2 t)).bind fun u => if tr_ok nd (3 * d + 2) u = true then some u else none := fun t => by unfold tr_d; rw [tr_n (n := 2) (by omega)]
  rcases st 0 (k / 16) (by omega) hi with ⟨c0, r0⟩ | ⟨x0, y0, c0, r0, R0⟩
  · left
    rw [e0, c0]
    refine ⟨rfl, ?_⟩
    unfold rS st64
    rw [r0]
    split <;> rfl
  · have hx0 : x0 < 13 := cl_lt (hlg 0 (by omega)) _ _ _ _ c0 (st_lt _ _) hi
    have q1 : st3 (nx 0 t x0) 1 = st3 t 1 := st_nx_ne (by omega) (by omega) (by omega) ht hx0
    have q2 : st3 (nx 0 t x0) 2 = st3 t 2 := st_nx_ne (by omega) (by omega) (by omega) ht hx0
    have q0 : st3 (nx 0 t x0) 0 = x0 := st_nx (by omega) ht hx0
    have ht1 : nx 0 t x0 < 2197 := nx_lt (by omega) ht hx0
    rcases st 1 (k / 4 % 4) (by omega) hj with ⟨c1, r1⟩ | ⟨x1, y1, c1, r1, R1⟩
    · left
      rw [e0, c0]
      show ((tr_d D lgN fbN fxN nd (3 * d + 1) (nx 0 t x0) (k / 4 % 4)).bind _) = none ∧ _
      rw [e1, q1, c1]
      refine ⟨rfl, ?_⟩
      unfold rS st64
      rw [r0, r1]
      split <;> rfl
    · have hx1 : x1 < 13 := cl_lt (hlg 1 (by omega)) _ _ _ _ c1 (st_lt _ _) hj
      have p0 : st3 (nx 1 (nx 0 t x0) x1) 0 = x0 := by rw [st_nx_ne (by omega) (by omega) (by omega) ht1 hx1, q0]
      have p2 : st3 (nx 1 (nx 0 t x0) x1) 2 = st3 t 2 := by rw [st_nx_ne (by omega) (by omega) (by omega) ht1 hx1, q2]
      have p1 : st3 (nx 1 (nx 0 t x0) x1) 1 = x1 := st_nx (by omega) ht1 hx1
      have ht2 : nx 1 (nx 0 t x0) x1 < 2197 := nx_lt (by omega) ht1 hx1
      have f0 : tr_d D lgN fbN fxN nd (3 * d) t (k / 16) = some (nx 0 t x0) := by rw [e0, c0]; rfl
      have f1 : tr_d D lgN fbN fxN nd (3 * d + 1) (nx 0 t x0) (k / 4 % 4) = some (nx 1 (nx 0 t x0) x1) := by rw [e1, q1, c1]; rfl
      rw [f0, sb, f1, sb, e2, p2]
      rcases st 2 (k % 4) (by omega) hl with ⟨c2, r2⟩ | ⟨x2, y2, c2, r2, R2⟩
      · left
        rw [c2]
        refine ⟨rfl, ?_⟩
        unfold rS st64
        rw [r0, r1, r2]
        split <;> rfl
      · have hx2 : x2 < 13 := cl_lt (hlg 2 (by omega)) _ _ _ _ c2 (st_lt _ _) hl
        have z0 : st3 (nx 2 (nx 1 (nx 0 t x0) x1) x2) 0 = x0 := by rw [st_nx_ne (by omega) (by omega) (by omega) ht2 hx2, p0]
        have z1 : st3 (nx 2 (nx 1 (nx 0 t x0) x1) x2) 1 = x1 := by rw [st_nx_ne (by omega) (by omega) (by omega) ht2 hx2, p1]
        have z2 : st3 (nx 2 (nx 1 (nx 0 t x0) x1) x2) 2 = x2 := st_nx (by omega) ht2 hx2
        have ht3 : nx 2 (nx 1 (nx 0 t x0) x1) x2 < 2197 := nx_lt (by omega) ht2 hx2
        have s0 : sh x0 = k / 16 := cl_sh _ _ _ _ c0 hi
        have s1 : sh x1 = k / 4 % 4 := cl_sh _ _ _ _ c1 hj
        have s2 : sh x2 = k % 4 := cl_sh _ _ _ _ c2 hl
        have hc := shs_cov (nd := nd) (d := d) (t := nx 2 (nx 1 (nx 0 t x0) x1) x2) (k := k) (by rw [z0, s0]) (by rw [z1, s1]) (by rw [z2, s2]) 3
        have ok : tr_ok nd (3 * d + 2) (nx 2 (nx 1 (nx 0 t x0) x1) x2) = cov nd d k 3 := by
          unfold tr_ok
          rw [show (3 * d + 2) % 3 = 2 by omega, show (3 * d + 2) / 3 = d by omega, decide_eq_true rfl, Bool.true_and]
          by_cases hcv : cov nd d k 3 = true
          · rw [hcv, hc.2 hcv]; rfl
          · have : 0 < shs nd d (nx 2 (nx 1 (nx 0 t x0) x1) x2) 3 := by
              rcases Nat.eq_zero_or_pos (shs nd d (nx 2 (nx 1 (nx 0 t x0) x1) x2) 3) with h | h
              · exact absurd (hc.1 h) hcv
              · exact h
            rw [decide_eq_true this]
            simp at hcv
            rw [hcv]; rfl
        obtain ⟨a1, _, _⟩ := rd_lt (hlg 0 (by omega)) hi r0
        obtain ⟨b1, _, _⟩ := rd_lt (hlg 1 (by omega)) hj r1
        obtain ⟨c1', _, _⟩ := rd_lt (hlg 2 (by omega)) hl r2
        obtain ⟨w0, w1, w2⟩ := st_tri a1 b1 c1'
        by_cases hcv : cov nd d k 3 = true
        · right
          have f2 : tr_d D lgN fbN fxN nd (3 * d + 2) (nx 1 (nx 0 t x0) x1) (k % 4) = some (nx 2 (nx 1 (nx 0 t x0) x1) x2) := by
            rw [e2, p2, c2]
            show (if tr_ok nd (3 * d + 2) (nx 2 (nx 1 (nx 0 t x0) x1) x2) = true then some _ else none) = _
            rw [ok, if_pos hcv]
          refine ⟨nx 0 t x0, nx 1 (nx 0 t x0) x1, nx 2 (nx 1 (nx 0 t x0) x1) x2, 169 * y0 + 13 * y1 + y2, rfl, f1, f2, ?_, ht3, by omega, ?_, q1, p2⟩
          · unfold rS st64
            rw [if_pos hcv, r0, r1, r2]; rfl
          · intro n hn
            rcases n3 hn with rfl | rfl | rfl
            · rw [z0, w0]; exact R0
            · rw [z1, w1]; exact R1
            · rw [z2, w2]; exact R2
        · left
          rw [c2]
          refine ⟨?_, ?_⟩
          · show (if tr_ok nd (3 * d + 2) (nx 2 (nx 1 (nx 0 t x0) x1) x2) = true then some _ else none) = _
            rw [ok, if_neg hcv]
          · unfold rS st64
            rw [if_neg hcv]
