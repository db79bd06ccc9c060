/-! the reference's goBack: its three loops -/
def RH (D : Nat) (lgN sB wB : Nat → Nat) (lgA bs bw nd co pa : Nat → Int32) : Prop := (D ≤ 6) ∧ (∀ n, n < 3 → lgN n ≤ 4) ∧ (∀ n, n < 3 → lgA n = mI (lgN n)) ∧ (∀ n, n < 3 → bs n = mI (sB n)) ∧ (∀ n, n < 3 → bw n = mI (wB n)) ∧ (∀ n, n < 3 → sB n < 4) ∧ (∀ n, n < 3 → wB n ≤ 4) ∧ (Lim 24 3 nd) ∧ (Lim 72 99 co) ∧ (Lim 48 99 pa)
theorem RH.hD {D : Nat} {lgN sB wB : Nat → Nat} {lgA bs bw nd co pa : Nat → Int32} (h : RH D lgN sB wB lgA bs bw nd co pa) : D ≤ 6 := h.1
theorem RH.hlg {D : Nat} {lgN sB wB : Nat → Nat} {lgA bs bw nd co pa : Nat → Int32} (h : RH D lgN sB wB lgA bs bw nd co pa) : ∀ n, n < 3 → lgN n ≤ 4 := h.2.1
theorem RH.hla {D : Nat} {lgN sB wB : Nat → Nat} {lgA bs bw nd co pa : Nat → Int32} (h : RH D lgN sB wB lgA bs bw nd co pa) : ∀ n, n < 3 → lgA n = mI (lgN n) := h.2.2.1
theorem RH.h1 {D : Nat} {lgN sB wB : Nat → Nat} {lgA bs bw nd co pa : Nat → Int32} (h : RH D lgN sB wB lgA bs bw nd co pa) : ∀ n, n < 3 → bs n = mI (sB n) := h.2.2.2.1
theorem RH.h2 {D : Nat} {lgN sB wB : Nat → Nat} {lgA bs bw nd co pa : Nat → Int32} (h : RH D lgN sB wB lgA bs bw nd co pa) : ∀ n, n < 3 → bw n = mI (wB n) := h.2.2.2.2.1
theorem RH.h3 {D : Nat} {lgN sB wB : Nat → Nat} {lgA bs bw nd co pa : Nat → Int32} (h : RH D lgN sB wB lgA bs bw nd co pa) : ∀ n, n < 3 → sB n < 4 := h.2.2.2.2.2.1
theorem RH.h4 {D : Nat} {lgN sB wB : Nat → Nat} {lgA bs bw nd co pa : Nat → Int32} (h : RH D lgN sB wB lgA bs bw nd co pa) : ∀ n, n < 3 → wB n ≤ 4 := h.2.2.2.2.2.2.1
theorem RH.hnd {D : Nat} {lgN sB wB : Nat → Nat} {lgA bs bw nd co pa : Nat → Int32} (h : RH D lgN sB wB lgA bs bw nd co pa) : Lim 24 3 nd := h.2.2.2.2.2.2.2.1
theorem RH.hco {D : Nat} {lgN sB wB : Nat → Nat} {lgA bs bw nd co pa : Nat → Int32} (h : RH D lgN sB wB lgA bs bw nd co pa) : Lim 72 99 co := h.2.2.2.2.2.2.2.2.1
theorem RH.hpa {D : Nat} {lgN sB wB : Nat → Nat} {lgA bs bw nd co pa : Nat → Int32} (h : RH D lgN sB wB lgA bs bw nd co pa) : Lim 48 99 pa := h.2.2.2.2.2.2.2.2.2
def r0 (sB wB : Nat → Nat) : Nat := 169 * sr (sB 0) (wB 0) + 13 * sr (sB 1) (wB 1) + sr (sB 2) (wB 2)
def BK (S : Nat → Nat → Nat → Option Nat) (W : Nat → Nat → Nat → Int) (lgN : Nat → Nat) (t0 D d K : Nat) (rest : Nat → Int32) : Prop := RO S W lgN t0 D (d + 1) rest ∧ ∀ u, u < K → ask lgN t0 d u = true → rest (2197 * d + u) = iI (rs S W D (D - d) u)
theorem bk_step {S : Nat → Nat → Nat → Option Nat} {W : Nat → Nat → Nat → Int} {lgN : Nat → Nat} {t0 D d K : Nat} {rest : Nat → Int32} (hK : K < 2197) (h : BK S W lgN t0 D d K rest) : BK S W lgN t0 D d (K + 1) (upd rest (2197 * d + K) (if ask lgN t0 d K = true then iI (rs S W D (D - d) K) else iI FAR)) := by
  refine ⟨fun e u h1 h2 h3 h4 => ?_, fun u hu ha => ?_⟩
  · rw [upd_at, if_neg (by omega)]
    exact h.1 e u h1 h2 h3 h4
  · rw [upd_at]
    by_cases q : u = K
    · subst q
      rw [if_pos rfl, if_pos ha]
    · rw [if_neg (by omega)]
      exact h.2 u (by omega) ha
theorem q_b24 {fu d D a b : Nat} {lgN sB wB : Nat → Nat} {fbA lgA bs bw fi co pa pl nd rest af we cv : Nat → Int32} {rep : Int32} (hfu : 13 < fu) (H : RH D lgN sB wB lgA bs bw nd co pa) (hd : d < D) (ha : a < 13) (hb : b < 13) (hp : Prep lgN fbA fi co pa pl nd rep d af we cv) (hr : BK (rS lgN fbA fi nd) (rV rep pl co pa) lgN (r0 sB wB) D d (169 * a + 13 * b) rest) :
    ∃ r, iter (f_Wm_goBack_l24 fu (mI d) (mI a) (mI b) lgA bs bw af we cv) fu (mI 0, rest) = some r ∧ BK (rS lgN fbA fi nd) (rV rep pl co pa) lgN (r0 sB wB) D d (169 * a + 13 * (b + 1)) r.2 := by
  refine iter_for (N := 13) (fun c (s : Int32 × (Nat → Int32)) => s.1 = mI c ∧ BK (rS lgN fbA fi nd) (rV rep pl co pa) lgN (r0 sB wB) D d (169 * a + 13 * b + c) s.2) (P := fun (r : Int32 × (Nat → Int32)) => BK (rS lgN fbA fi nd) (rV rep pl co pa) lgN (r0 sB wB) D d (169 * a + 13 * (b + 1)) r.2) ?_ ?_ fu 0 (mI 0, rest) (by omega) (by omega) ⟨rfl, hr⟩
  · rintro c ⟨s1, s2⟩ hc ⟨rfl, hm⟩
    have := q_l24 (fu := fu) (by omega) H.hD hd ha hb hc H.hlg H.hla H.h1 H.h2 H.h3 H.h4 H.hco H.hpa hp hm.1
    exact ⟨_, this, rfl, bk_step (show 169 * a + 13 * b + c < 2197 by omega) hm⟩
  · rintro ⟨s1, s2⟩ ⟨rfl, hm⟩
    refine ⟨(mI 13, s2), ?_, ?_⟩
    · unfold f_Wm_goBack_l24
      dsimp only
      rw [if_pos (show (13 : Int32) ≤ mI 13 from (mI_le (a := 13) (by omega) (by omega)).2 (by omega))]
    · rw [show 169 * a + 13 * (b + 1) = 169 * a + 13 * b + 13 by omega]; exact hm
theorem q_b15 {fu d D a : Nat} {lgN sB wB : Nat → Nat} {fbA lgA bs bw fi co pa pl nd rest af we cv : Nat → Int32} {rep : Int32} (hfu : 13 < fu) (H : RH D lgN sB wB lgA bs bw nd co pa) (hd : d < D) (ha : a < 13) (hp : Prep lgN fbA fi co pa pl nd rep d af we cv) (hr : BK (rS lgN fbA fi nd) (rV rep pl co pa) lgN (r0 sB wB) D d (169 * a) rest) :
    ∃ r, iter (f_Wm_goBack_l15 fu (mI d) (mI a) lgA bs bw af we cv) fu (mI 0, rest) = some r ∧ BK (rS lgN fbA fi nd) (rV rep pl co pa) lgN (r0 sB wB) D d (169 * (a + 1)) r.2 := by
  refine iter_for (N := 13) (fun b (s : Int32 × (Nat → Int32)) => s.1 = mI b ∧ BK (rS lgN fbA fi nd) (rV rep pl co pa) lgN (r0 sB wB) D d (169 * a + 13 * b) s.2) (P := fun (r : Int32 × (Nat → Int32)) => BK (rS lgN fbA fi nd) (rV rep pl co pa) lgN (r0 sB wB) D d (169 * (a + 1)) r.2) ?_ ?_ fu 0 (mI 0, rest) (by omega) (by omega) ⟨rfl, hr⟩
  · rintro b ⟨s1, s2⟩ hb ⟨rfl, hm⟩
    obtain ⟨r, h1, h2⟩ := q_b24 (fu := fu) hfu H hd ha hb hp hm
    unfold f_Wm_goBack_l15
    dsimp only
    rw [if_neg (show ¬ (13 : Int32) ≤ mI b from fun q => absurd ((mI_le (a := 13) (by omega) (by omega)).1 q) (by omega))]
    show ∃ a', ((iter _ fu (mI 0, s2)).bind _) = _ ∧ _
    rw [h1, sb, mI_1]
    exact ⟨_, rfl, rfl, h2⟩
  · rintro ⟨s1, s2⟩ ⟨rfl, hm⟩
    refine ⟨(mI 13, s2), ?_, ?_⟩
    · unfold f_Wm_goBack_l15
      dsimp only
      rw [if_pos (show (13 : Int32) ≤ mI 13 from (mI_le (a := 13) (by omega) (by omega)).2 (by omega))]
    · rw [show 169 * (a + 1) = 169 * a + 13 * 13 by omega]; exact hm
theorem p_goBack {fu d D : Nat} {lgN sB wB : Nat → Nat} {fbA lgA bs bw fi co pa pl nd rest af we cv : Nat → Int32} {rep : Int32} (hfu : 156 < fu) (H : RH D lgN sB wB lgA bs bw nd co pa) (hd : d < D) (hr : RO (rS lgN fbA fi nd) (rV rep pl co pa) lgN (r0 sB wB) D (d + 1) rest) :
    ∃ rest' af' we' cv', f_Wm_goBack fu (mI d) rep fbA lgA bs bw nd co pa fi pl rest af we cv = some (rest', af', we', cv') ∧ RO (rS lgN fbA fi nd) (rV rep pl co pa) lgN (r0 sB wB) D d rest' := by
  have hD := H.hD
  obtain ⟨af', we', cv', g1, hp⟩ := p_prepare (rep := rep) (fbA := fbA) (co := co) (pa := pa) (fi := fi) (pl := pl) (af := af) (we := we) (cv := cv) hfu (by omega : d < 6) H.hlg H.hla H.hnd
  unfold f_Wm_goBack
  rw [g1, sb]
  obtain ⟨r, h1, h2⟩ := iter_for (N := 13) (b := f_Wm_goBack_l7 fu (mI d) lgA bs bw af' we' cv') (fun a (s : Int32 × (Nat → Int32)) => s.1 = mI a ∧ BK (rS lgN fbA fi nd) (rV rep pl co pa) lgN (r0 sB wB) D d (169 * a) s.2) (P := fun (r : Int32 × (Nat → Int32)) => BK (rS lgN fbA fi nd) (rV rep pl co pa) lgN (r0 sB wB) D d 2197 r.2)
    (by
      rintro a ⟨s1, s2⟩ ha ⟨rfl, hm⟩
      obtain ⟨r, h1, h2⟩ := q_b15 (fu := fu) (by omega) H hd ha hp hm
      unfold f_Wm_goBack_l7
      dsimp only
      rw [if_neg (show ¬ (13 : Int32) ≤ mI a from fun q => absurd ((mI_le (a := 13) (by omega) (by omega)).1 q) (by omega))]
      show ∃ a', ((iter _ fu (mI 0, s2)).bind _) = _ ∧ _
      rw [h1, sb, mI_1]
      exact ⟨_, rfl, rfl, h2⟩)
    (by
      rintro ⟨s1, s2⟩ ⟨rfl, hm⟩
      refine ⟨(mI 13, s2), ?_, hm⟩
      unfold f_Wm_goBack_l7
      dsimp only
      rw [if_pos (show (13 : Int32) ≤ mI 13 from (mI_le (a := 13) (by omega) (by omega)).2 (by omega))])
    fu 0 (mI 0, rest) (by omega) (by omega) ⟨rfl, hr, fun u hu => by omega⟩
  show ∃ rest' af' we' cv', ((iter _ fu (mI 0, rest)).bind _) = _ ∧ _
  rw [h1, sb]
  refine ⟨_, _, _, _, rfl, fun e u x1 x2 x3 x4 => ?_⟩
  by_cases q : e = d
  · subst q
    rcases x4 with x4 | x4
    · omega
    · exact h2.2 u x3 x4
  · exact h2.1 e u (by omega) x2 x3 x4
