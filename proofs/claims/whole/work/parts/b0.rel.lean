/-! the relation between the states of class and reference; checks of arguments -/
def RelP (D : Nat) (lgN sB wB : Nat → Nat) (r : Nat) (pl be : Int64) (bk dc n0 f0 g0 t0 d0 : Int32) (sc0 pc0 fx0 : Nat → Int32) (n1 f1 g1 t1 d1 : Int32) (sc1 pc1 fx1 : Nat → Int32) (n2 f2 g2 t2 d2 : Int32) (sc2 pc2 fx2 nd : Nat → Int32) (gl rc : Int32) (q np : Nat → Int32) (days rounds bd sol least isP : Int32) (fbA lgA bs bw ndM co pa fi qm best plan : Nat → Int32) : Prop := (dc = mI D ∧ n0 = mI 0 ∧ n1 = mI 1 ∧ n2 = mI 2 ∧ g0 = mI (lgN 0) ∧ g1 = mI (lgN 1) ∧ g2 = mI (lgN 2) ∧ t0 = mI (so (sB 0) (wB 0)) ∧ t1 = mI (so (sB 1) (wB 1)) ∧ t2 = mI (so (sB 2) (wB 2)) ∧ d0 = mI D ∧ d1 = mI D ∧ d2 = mI D ∧ days = mI D ∧ rounds = mI r) ∧ Wd D lgN sB wB (pk f0 f1 f2) (pk fx0 fx1 fx2) (pk sc0 sc1 sc2) (pk pc0 pc1 pc2) nd fbA lgA bs bw ndM co pa fi ∧ PR D gl rc q r bd qm ∧ BK2 D be bk sol least best ∧ PlR D pl isP plan ∧ ∀ k, k < 24 → np k = 0
def Rel (gx : GX) (gm : GM) (r : Nat) : Prop := ∃ D lgN sB wB, RelP D lgN sB wB r gx.1 gx.2.1 gx.2.2.1 gx.2.2.2.1 gx.2.2.2.2.1 gx.2.2.2.2.2.1 gx.2.2.2.2.2.2.1 gx.2.2.2.2.2.2.2.1 gx.2.2.2.2.2.2.2.2.1 gx.2.2.2.2.2.2.2.2.2.1 gx.2.2.2.2.2.2.2.2.2.2.1 gx.2.2.2.2.2.2.2.2.2.2.2.1 gx.2.2.2.2.2.2.2.2.2.2.2.2.1 gx.2.2.2.2.2.2.2.2.2.2.2.2.2.1 gx.2.2.2.2.2.2.2.2.2.2.2.2.2.2.1 gx.2.2.2.2.2.2.2.2.2.2.2.2.2.2.2.1 gx.2.2.2.2.2.2.2.2.2.2.2.2.2.2.2.2.1 gx.2.2.2.2.2.2.2.2.2.2.2.2.2.2.2.2.2.1 gx.2.2.2.2.2.2.2.2.2.2.2.2.2.2.2.2.2.2.1 gx.2.2.2.2.2.2.2.2.2.2.2.2.2.2.2.2.2.2.2.1 gx.2.2.2.2.2.2.2.2.2.2.2.2.2.2.2.2.2.2.2.2.1 gx.2.2.2.2.2.2.2.2.2.2.2.2.2.2.2.2.2.2.2.2.2.1 gx.2.2.2.2.2.2.2.2.2.2.2.2.2.2.2.2.2.2.2.2.2.2.1 gx.2.2.2.2.2.2.2.2.2.2.2.2.2.2.2.2.2.2.2.2.2.2.2.1 gx.2.2.2.2.2.2.2.2.2.2.2.2.2.2.2.2.2.2.2.2.2.2.2.2.1 gx.2.2.2.2.2.2.2.2.2.2.2.2.2.2.2.2.2.2.2.2.2.2.2.2.2.1 gx.2.2.2.2.2.2.2.2.2.2.2.2.2.2.2.2.2.2.2.2.2.2.2.2.2.2.1 gx.2.2.2.2.2.2.2.2.2.2.2.2.2.2.2.2.2.2.2.2.2.2.2.2.2.2.2.1 gx.2.2.2.2.2.2.2.2.2.2.2.2.2.2.2.2.2.2.2.2.2.2.2.2.2.2.2.2.1 gx.2.2.2.2.2.2.2.2.2.2.2.2.2.2.2.2.2.2.2.2.2.2.2.2.2.2.2.2.2.2.2.2.2.2.2.2.2.1 gx.2.2.2.2.2.2.2.2.2.2.2.2.2.2.2.2.2.2.2.2.2.2.2.2.2.2.2.2.2.2.2.2.2.2.2.2.2.2.1 gx.2.2.2.2.2.2.2.2.2.2.2.2.2.2.2.2.2.2.2.2.2.2.2.2.2.2.2.2.2.2.2.2.2.2.2.2.2.2.2.1 gx.2.2.2.2.2.2.2.2.2.2.2.2.2.2.2.2.2.2.2.2.2.2.2.2.2.2.2.2.2.2.2.2.2.2.2.2.2.2.2.2 gm.2.1 gm.2.2.1 gm.2.2.2.1 gm.2.2.2.2.1 gm.2.2.2.2.2.1 gm.2.2.2.2.2.2.1 gm.2.2.2.2.2.2.2.2.2.2.1 gm.2.2.2.2.2.2.2.2.2.2.2.1 gm.2.2.2.2.2.2.2.2.2.2.2.2.1 gm.2.2.2.2.2.2.2.2.2.2.2.2.2.1 gm.2.2.2.2.2.2.2.2.2.2.2.2.2.2.1 gm.2.2.2.2.2.2.2.2.2.2.2.2.2.2.2.1 gm.2.2.2.2.2.2.2.2.2.2.2.2.2.2.2.2.1 gm.2.2.2.2.2.2.2.2.2.2.2.2.2.2.2.2.2.1 gm.2.2.2.2.2.2.2.2.2.2.2.2.2.2.2.2.2.2.1 gm.2.2.2.2.2.2.2.2.2.2.2.2.2.2.2.2.2.2.2.2.1 gm.2.2.2.2.2.2.2.2.2.2.2.2.2.2.2.2.2.2.2.2.2.1
theorem nurse_c (a : Int32) : (f_Wr_requireNurse a = some (.inr 1) ∧ f_Wm_noNurse a = some 1) ∨ ∃ n, n < 3 ∧ a = mI n := by
  unfold f_Wr_requireNurse f_Wr_requireNurse_b9 f_Wm_noNurse f_Wm_noNurse_b9
  have l0 : (a < 0) ↔ a.toInt < 0 := lt_i (a := 0) (by omega) (by omega)
  have l3 : (a < 3) ↔ a.toInt < 3 := lt_i (a := 3) (by omega) (by omega)
  have l2 : (a ≤ 2) ↔ a.toInt ≤ 2 := le_i (a := 2) (by omega) (by omega)
  by_cases h0 : a.toInt < 0
  · rw [if_pos (l0.2 h0), if_pos (l0.2 h0)]; exact .inl ⟨rfl, rfl⟩
  · by_cases h3 : a.toInt < 3
    · exact .inr ⟨a.toInt.toNat, by omega, i_nat (by omega)⟩
    · rw [if_neg (fun q => h0 (l0.1 q)), if_neg (fun q => h0 (l0.1 q)), if_neg (fun q => h3 (l3.1 q)), if_neg (fun q => absurd (l2.1 q) (by omega))]
      exact .inl ⟨rfl, rfl⟩
theorem day_c (a : Int32) {D : Nat} (hD : D ≤ 6) : (f_Wr_requireDay a (mI D) = some (.inr 1) ∧ f_Wm_noDay a (mI D) = some 1) ∨ ∃ d, d < D ∧ a = mI d := by
  unfold f_Wr_requireDay f_Wr_requireDay_b15 f_Wm_noDay f_Wm_noDay_b12
  have l0 : (a < 0) ↔ a.toInt < 0 := lt_i (a := 0) (by omega) (by omega)
  have lD : (a < mI D) ↔ a.toInt < (D : Int) := by rw [mI_iI]; exact lt_i (by omega) (by omega)
  by_cases h0 : a.toInt < 0
  · rw [if_pos (l0.2 h0), if_pos (l0.2 h0)]; exact .inl ⟨rfl, rfl⟩
  · by_cases h3 : a.toInt < D
    · exact .inr ⟨a.toInt.toNat, by omega, i_nat (by omega)⟩
    · rw [if_neg (fun q => h0 (l0.1 q)), if_neg (fun q => h0 (l0.1 q)), if_neg (fun q => h3 (lD.1 q)), if_neg (fun q => h3 (lD.1 q))]
      exact .inl ⟨rfl, rfl⟩
theorem shift_c (a : Int32) : (f_Wr_requireShift a 0 = some (.inr 1) ∧ f_Wm_noShift a = some 1) ∨ ∃ s, s < 4 ∧ a = mI s := by
  unfold f_Wr_requireShift f_Wr_requireShift_b10 f_Wm_noShift f_Wm_noShift_b9
  have l0 : (a < 0) ↔ a.toInt < 0 := lt_i (a := 0) (by omega) (by omega)
  have l3 : (a < 4) ↔ a.toInt < 4 := lt_i (a := 4) (by omega) (by omega)
  have l2 : (a ≤ 3) ↔ a.toInt ≤ 3 := le_i (a := 3) (by omega) (by omega)
  by_cases h0 : a.toInt < 0
  · rw [if_pos (l0.2 h0), if_pos (l0.2 h0)]; exact .inl ⟨rfl, rfl⟩
  · by_cases h3 : a.toInt < 4
    · exact .inr ⟨a.toInt.toNat, by omega, i_nat (by omega)⟩
    · rw [if_neg (fun q => h0 (l0.1 q)), if_neg (fun q => h0 (l0.1 q)), if_neg (fun q => h3 (l3.1 q)), if_neg (fun q => absurd (l2.1 q) (by omega))]
      exact .inl ⟨rfl, rfl⟩
theorem p_reqS : ∀ s, s < 4 → f_Wr_requireShift (mI s) 0 = some (.inl ()) ∧ f_Wm_noShift (mI s) = some 0 := by decide
theorem val_c (a : Int32) {lo hi : Int} (h1 : -2 ^ 31 ≤ lo) (h2 : lo < 2 ^ 31) (h3 : -2 ^ 31 ≤ hi) (h4 : hi < 2 ^ 31) : (f_Wr_requireValue a (iI lo) (iI hi) = some (.inr 2) ∧ (a.toInt < lo ∨ hi < a.toInt)) ∨ (f_Wr_requireValue a (iI lo) (iI hi) = some (.inl ()) ∧ lo ≤ a.toInt ∧ a.toInt ≤ hi) := by
  unfold f_Wr_requireValue f_Wr_requireValue_b10
  by_cases h : a.toInt < lo
  · rw [if_pos ((lt_i h1 h2).2 h)]; exact .inl ⟨rfl, .inl h⟩
  · rw [if_neg (fun q => h ((lt_i h1 h2).1 q))]
    by_cases h' : a.toInt ≤ hi
    · rw [if_pos ((le_i h3 h4).2 h')]; exact .inr ⟨rfl, by omega, h'⟩
    · rw [if_neg (fun q => h' ((le_i h3 h4).1 q))]; exact .inl ⟨rfl, .inr (by omega)⟩
theorem arg_at {L i j : Nat} {xs : Nat → Int32} (h : i + j < L) (hL : L < 2 ^ 31) : gi L xs (mI i + mI j) = some (xs (i + j)) := by
  rw [mI_add, gi_n h hL]
