/-! one place: readSteps and takePlace together -/
theorem p_place {fu D p t0 : Nat} {lgN : Nat → Nat} {fbN : Nat → Int32} {fxN scN pcN : Nat → Nat → Int32} {ch : Nat → Nat → Bool} {pl : Int64} {δ : Nat → Nat → Nat → Option Nat} {sa : Nat → Int32} {ss k nk : Nat → Int64} (hfu : 2197 < fu) (hD : D ≤ 6) (hp : p < 3 * D) (hl : ∀ n, n < 3 → lgN n ≤ 4) (hsc : ∀ n, n < 3 → Lim 24 99 (scN n)) (hpc : ∀ n, n < 3 → Lim 16 99 (pcN n)) (hpl : Plan pl (36 - 2 * (3 * (p / 3) + p % 3 + 1)) (ch p)) (hδ : ∀ t s, δ p t s = tr_r D lgN fbN fxN p t s) (hst : ∀ c t, dp_T δ t0 p c = some t → t < 2197) (hS : TInv δ (tr_k scN pcN ch) t0 p k) :
    ∃ sa' ss' k', f_Rs_readSteps fu (mI (p / 3)) pl sa ss (mI (p % 3)) (fbN (p % 3)) (mI (lgN (p % 3))) (mI D) (scN (p % 3)) (pcN (p % 3)) (fxN (p % 3)) = some (sa', ss') ∧ f_Rs_takePlace fu (mI (p % 3)) sa' ss' k nk = some (k', k) ∧ TInv δ (tr_k scN pcN ch) t0 (p + 1) k' := by
  have hn : p % 3 < 3 := Nat.mod_lt _ (by omega)
  obtain ⟨sa', ss', h1, h2⟩ := p_readSteps (fu := fu) (fb := fbN (p % 3)) (fx := fxN (p % 3)) (sa := sa) (ss := ss) (by omega) hD (show p / 3 < D by omega) hn (hl _ hn) (hsc _ hn) (hpc _ hn) hpl
  have hP := pl_of (δ := δ) (ch := ch) (scN := scN) (pcN := pcN) (show p < 18 by omega) hl hδ h2
  obtain ⟨k', h3, h4⟩ := p_takePlace (fu := fu) (nk := nk) hfu hn hst hP (fun t s _ hs => by have := tr_k_bd (ch := ch) hsc hpc p t s (by omega) hs; omega) (tr_K_bd hsc hpc p (by omega)) (tr_K_bd hsc hpc (p + 1) (by omega)) hS
  exact ⟨sa', ss', k', h1, h3, h4⟩
/-- a state's keys carry over between step functions that agree below p -/
theorem tinv_congr {δ δ2 : Nat → Nat → Nat → Option Nat} {κ : Nat → Nat → Nat → Int} {t0 p : Nat} {k : Nat → Int64} (h : ∀ d, d < p → ∀ t s, δ d t s = δ2 d t s) (hS : TInv δ κ t0 p k) : TInv δ2 κ t0 p k := by
  intro t ht
  obtain ⟨z, h1, h2⟩ := hS t ht
  exact ⟨z, h1, isMin_congr (fun c => by unfold dp_B; rw [dpT_congr h p (Nat.le_refl p)]) (fun c _ => dpK_congr h p (by omega) c) h2⟩
