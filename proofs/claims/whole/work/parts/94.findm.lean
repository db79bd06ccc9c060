/-! the reference's find -/
theorem tri_u (u : Nat) : 169 * (u / 169) + 13 * (u / 13 % 13) + u % 13 = u := by omega
theorem q_f38 {fu D : Nat} {lgN sB wB : Nat → Nat} {fbA lgA bs bw fi co pa pl nd rest af we cv : Nat → Int32} {rep : Int32} (hfu : 156 < fu) (H : RH D lgN sB wB lgA bs bw nd co pa) (hr : RO (rS lgN fbA fi nd) (rV rep pl co pa) lgN (r0 sB wB) D D rest) :
    ∃ r, iter (f_Wm_find_l38 fu rep fbA lgA bs bw nd co pa fi pl) fu (iI ((D : Int) - 1), rest, af, we, cv) = some r ∧ RO (rS lgN fbA fi nd) (rV rep pl co pa) lgN (r0 sB wB) D 0 r.2.1 := by
  have hD := H.hD
  refine iter_for (N := D) (fun k (s : Int32 × (Nat → Int32) × (Nat → Int32) × (Nat → Int32) × (Nat → Int32)) => s.1 = iI ((D : Int) - 1 - k) ∧ RO (rS lgN fbA fi nd) (rV rep pl co pa) lgN (r0 sB wB) D (D - k) s.2.1) (P := fun (r : Int32 × (Nat → Int32) × (Nat → Int32) × (Nat → Int32) × (Nat → Int32)) => RO (rS lgN fbA fi nd) (rV rep pl co pa) lgN (r0 sB wB) D 0 r.2.1) ?_ ?_ fu 0 (iI ((D : Int) - 1), rest, af, we, cv) (by omega) (by omega) ⟨by show iI _ = iI _; congr 1; omega, hr⟩
  · rintro k ⟨s1, rest, af, we, cv⟩ hk ⟨rfl, hm⟩
    have e : iI ((D : Int) - 1 - k) = mI (D - 1 - k) := by rw [mI_iI]; congr 1; omega
    dsimp only at hm
    rw [show D - k = D - 1 - k + 1 by omega] at hm
    obtain ⟨rest', af', we', cv', g1, g2⟩ := p_goBack (af := af) (we := we) (cv := cv) hfu H (by omega : D - 1 - k < D) hm
    unfold f_Wm_find_l38
    dsimp only
    rw [e, if_neg (show ¬ mI (D - 1 - k) < 0 from fun q => absurd ((mI_lt (b := 0) (by omega) (by omega)).1 q) (by omega)), g1, sb]
    refine ⟨_, rfl, ?_, ?_⟩
    · show mI (D - 1 - k) + iI (-1) = _
      rw [mI_iI, iI_add]
      congr 1
      omega
    · rw [show D - (k + 1) = D - 1 - k by omega]; exact g2
  · rintro ⟨s1, rest, af, we, cv⟩ ⟨rfl, hm⟩
    rw [Nat.sub_self] at hm
    refine ⟨(iI ((D : Int) - 1 - D), rest, af, we, cv), ?_, hm⟩
    unfold f_Wm_find_l38
    dsimp only
    rw [if_pos]
    show iI ((D : Int) - 1 - D) < iI 0
    rw [iI_lt (by omega) (by omega) (by omega) (by omega)]
    omega
theorem q_f2 {fu D : Nat} {rest : Nat → Int32} (hfu : 2197 < fu) (hD : D ≤ 6) : ∃ r, iter (f_Wm_find_l2 (mI D)) fu (mI 0, rest) = some r ∧ ∀ u, u < 2197 → r.2 (2197 * D + u) = 0 := by
  refine iter_for (N := 2197) (fun k (s : Int32 × (Nat → Int32)) => s.1 = mI k ∧ ∀ u, u < k → s.2 (2197 * D + u) = 0) (P := fun (r : Int32 × (Nat → Int32)) => ∀ u, u < 2197 → r.2 (2197 * D + u) = 0) ?_ ?_ fu 0 (mI 0, rest) (by omega) (by omega) ⟨rfl, fun u hu => by omega⟩
  · rintro k ⟨s1, rest⟩ hk ⟨rfl, hm⟩
    have eu : (2197 * mI D) + mI k = mI (2197 * D + k) := by
      show (mI 2197 * mI D) + mI k = _
      rw [mI_mul, mI_add]
    unfold f_Wm_find_l2
    dsimp only
    rw [if_neg (show ¬ (2197 : Int32) ≤ mI k from fun q => absurd ((mI_le (a := 2197) (by omega) (by omega)).1 q) (by omega)), eu, si_n (by omega) (by omega), sb, mI_1]
    refine ⟨_, rfl, rfl, fun u hu => ?_⟩
    dsimp only
    rw [upd_at]
    by_cases q : u = k
    · rw [if_pos (by omega)]
    · rw [if_neg (by omega)]; exact hm u (by omega)
  · rintro ⟨s1, rest⟩ ⟨rfl, hm⟩
    refine ⟨(mI 2197, rest), ?_, hm⟩
    unfold f_Wm_find_l2
    dsimp only
    rw [if_pos (show (2197 : Int32) ≤ mI 2197 from (mI_le (a := 2197) (by omega) (by omega)).2 (by omega))]
/-- what found holds: the digits of a code of d days -/
def Fgd (d c : Nat) (fd : Nat → Int32) : Prop := ∀ n e, n < 3 → e < d → fd (6 * n + e) = mI (c / 64 ^ (d - 1 - e) / 4 ^ (2 - n) % 4)
theorem fd_step {d c k : Nat} {fd : Nat → Int32} (hd : d < 6) (hk : k < 64) (h : Fgd d c fd) : Fgd (d + 1) (64 * c + k) (upd (upd (upd fd d (mI (k / 16))) (6 + d) (mI (k / 4 % 4))) (12 + d) (mI (k % 4))) := by
  intro n e hn he
  rw [upd_at, upd_at, upd_at]
  by_cases q : e = d
  · subst q
    rw [show e + 1 - 1 - e = 0 by omega, Nat.pow_zero, Nat.div_one]
    rcases n3 hn with rfl | rfl | rfl
    · rw [if_neg (by omega), if_neg (by omega), if_pos (by omega)]
      congr 1
      show _ = (64 * c + k) / 16 % 4
      omega
    · rw [if_neg (by omega), if_pos (by omega)]
      congr 1
      show _ = (64 * c + k) / 4 % 4
      omega
    · rw [if_pos (by omega)]
      congr 1
      show _ = (64 * c + k) / 1 % 4
      omega
  · rw [if_neg (by omega), if_neg (by omega), if_neg (by omega), h n e hn (by omega)]
    rw [show d + 1 - 1 - e = (d - 1 - e) + 1 by omega, Nat.pow_succ, Nat.mul_comm (64 ^ (d - 1 - e)) 64, ← Nat.div_div_eq_div_mul, show (64 * c + k) / 64 = c by omega]
theorem st_some {C : Nat → Bool} {A0 A1 A2 : Nat → Option Nat} {k t : Nat} (h : st64 C A0 A1 A2 k = some t) : C k = true ∧ ∃ a b c, A0 (k / 16) = some a ∧ A1 (k / 4 % 4) = some b ∧ A2 (k % 4) = some c ∧ t = 169 * a + 13 * b + c := by
  unfold st64 at h
  by_cases hC : C k = true
  · rw [if_pos hC] at h
    obtain ⟨a, h1, h2⟩ := ob h
    obtain ⟨b, h3, h4⟩ := ob h2
    obtain ⟨c, h5, h6⟩ := Option.map_eq_some_iff.1 h4
    exact ⟨hC, a, b, c, h1, h3, h5, h6.symm⟩
  · rw [if_neg hC] at h; cases h
