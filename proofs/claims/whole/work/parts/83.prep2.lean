/-! the reference's prepare, whole -/
def cov (nd : Nat → Int32) (d k : Nat) : Nat → Bool
  | 0 => true
  | j + 1 => cov nd d k j && decide ((nd (4 * d + (j + 1))).toInt ≤ (if k / 16 = j + 1 then 1 else 0) + (if k / 4 % 4 = j + 1 then 1 else 0) + (if k % 4 = j + 1 then 1 else 0))
def Prep (lgN : Nat → Nat) (fbA fi co pa pl nd : Nat → Int32) (rep : Int32) (d : Nat) (af we cv : Nat → Int32) : Prop := (∀ n x s, n < 3 → x < 13 → s < 4 → af (52 * n + 4 * x + s) = enc (rd_d (lgN n) (fbA n) (fun d => fi (6 * n + d)) d x s) ∧ we (52 * n + 4 * x + s) = wR rep pl co pa n d (ra x) s) ∧ ∀ k, k < 64 → cv k = bI (cov nd d k 3)
theorem q_l2 {fu d : Nat} {lgN : Nat → Nat} {rep : Int32} {fbA lgA co pa fi pl af we : Nat → Int32} (hfu : 156 < fu) (hd : d < 6) (hlg : ∀ n, n < 3 → lgN n ≤ 4) (hla : ∀ n, n < 3 → lgA n = mI (lgN n)) :
    ∃ r, iter (f_Wm_prepare_l2 (mI d) rep fbA lgA co pa fi pl) fu (mI 0, af, we) = some r ∧ ∀ n x s, n < 3 → x < 13 → s < 4 → r.2.1 (52 * n + 4 * x + s) = enc (rd_d (lgN n) (fbA n) (fun d => fi (6 * n + d)) d x s) ∧ r.2.2 (52 * n + 4 * x + s) = wR rep pl co pa n d (ra x) s := by
  obtain ⟨r, h1, h2⟩ := iter_for (N := 156) (b := f_Wm_prepare_l2 (mI d) rep fbA lgA co pa fi pl) (fun k (a : Int32 × (Nat → Int32) × (Nat → Int32)) => a.1 = mI k ∧ ∀ n x s, n < 3 → x < 13 → s < 4 → 52 * n + 4 * x + s < k → a.2.1 (52 * n + 4 * x + s) = enc (rd_d (lgN n) (fbA n) (fun d => fi (6 * n + d)) d x s) ∧ a.2.2 (52 * n + 4 * x + s) = wR rep pl co pa n d (ra x) s) (P := fun r => ∀ n x s, n < 3 → x < 13 → s < 4 → 52 * n + 4 * x + s < 156 → r.2.1 (52 * n + 4 * x + s) = enc (rd_d (lgN n) (fbA n) (fun d => fi (6 * n + d)) d x s) ∧ r.2.2 (52 * n + 4 * x + s) = wR rep pl co pa n d (ra x) s)
    (by
      rintro k ⟨i, af, we⟩ hk ⟨rfl, hi⟩
      have hn : k / 52 < 3 := by omega
      have hx : k % 52 / 4 < 13 := by omega
      have hs : k % 4 < 4 := by omega
      have e1 : (mI k - mI k / mI 52 * mI 52) / mI 4 = mI (k % 52 / 4) := by
        rw [mI_div (by omega) (by omega), mI_mul, mI_sub (by omega), mI_div (by omega) (by omega)]
        congr 1
        omega
      have e2 : mI k / mI 52 = mI (k / 52) := mI_div (by omega) (by omega)
      have e3 : mI k - mI k / mI 4 * mI 4 = mI (k % 4) := by
        rw [mI_div (by omega) (by omega), mI_mul, mI_sub (by omega)]
        congr 1
        omega
      have es := q_step (rep := rep) (fbA := fbA) (co := co) (pa := pa) (fi := fi) (pl := pl) (af := af) (we := we) hd hn hx hs (hlg _ hn) hk (hla _ hn)
      unfold f_Wm_prepare_l2
      dsimp only
      rw [if_neg (show ¬ (156 : Int32) ≤ mI k from fun h => absurd ((mI_le (a := 156) (by omega) (by omega)).1 h) (by omega))]
      show ∃ a', (if ((mI k - mI k / mI 52 * mI 52) / mI 4) = mI 0 then f_Wm_prepare_b44 (mI d) (mI k) (mI k / mI 52) ((mI k - mI k / mI 52 * mI 52) / mI 4) (mI k - mI k / mI 4 * mI 4) (mI 0) rep fbA lgA co pa fi pl af we else f_Wm_prepare_b44 (mI d) (mI k) (mI k / mI 52) ((mI k - mI k / mI 52 * mI 52) / mI 4) (mI k - mI k / mI 4 * mI 4) (((((mI k - mI k / mI 52 * mI 52) / mI 4) - mI 1) / mI 4) + mI 1) rep fbA lgA co pa fi pl af we) = _ ∧ _
      rw [e1, e2, e3]
      have key : (if mI (k % 52 / 4) = mI 0 then f_Wm_prepare_b44 (mI d) (mI k) (mI (k / 52)) (mI (k % 52 / 4)) (mI (k % 4)) (mI 0) rep fbA lgA co pa fi pl af we else f_Wm_prepare_b44 (mI d) (mI k) (mI (k / 52)) (mI (k % 52 / 4)) (mI (k % 4)) (((mI (k % 52 / 4) - mI 1) / mI 4) + mI 1) rep fbA lgA co pa fi pl af we) = f_Wm_prepare_b44 (mI d) (mI k) (mI (k / 52)) (mI (k % 52 / 4)) (mI (k % 4)) (mI (ra (k % 52 / 4))) rep fbA lgA co pa fi pl af we := by
        generalize k % 52 / 4 = x at *
        unfold ra
        by_cases hx0 : x = 0
        · rw [if_pos (by rw [hx0]), if_pos hx0]
        · rw [if_neg (fun h => hx0 ((mI_inj (by omega) (by omega)).1 h)), if_neg hx0, mI_sub (by omega), mI_div (by omega) (by omega), mI_add]
      refine ⟨_, key.trans es, rfl, fun n x s hn hx hs hlt => ?_⟩
      dsimp only
      rw [upd_at, upd_at]
      by_cases q : 52 * n + 4 * x + s = k
      · have q1 : k / 52 = n := by omega
        have q2 : k % 52 / 4 = x := by omega
        have q3 : k % 4 = s := by omega
        rw [if_pos q, if_pos q, q1, q2, q3]
        exact ⟨rfl, rfl⟩
      · rw [if_neg q, if_neg q]
        exact hi n x s hn hx hs (by omega))
    (by
      rintro ⟨i, af, we⟩ ⟨rfl, hi⟩
      refine ⟨(mI 156, af, we), ?_, hi⟩
      unfold f_Wm_prepare_l2
      dsimp only
      rw [if_pos (show (156 : Int32) ≤ mI 156 from (mI_le (a := 156) (by omega) (by omega)).2 (by omega))])
    fu 0 (mI 0, af, we) (by omega) (by omega) ⟨rfl, fun n x s _ _ _ h => by omega⟩
  exact ⟨r, h1, fun n x s hn hx hs => h2 n x s hn hx hs (by omega)⟩
