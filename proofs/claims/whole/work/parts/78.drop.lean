/-! the day's end: triples that are short are dropped -/
theorem p_drop {fu D d t0 : Nat} {lgN : Nat → Nat} {fbN : Nat → Int32} {fxN scN pcN : Nat → Nat → Int32} {nd : Nat → Int32} {ch : Nat → Nat → Bool} {δ : Nat → Nat → Nat → Option Nat} {k : Nat → Int64} (hfu : 2197 < fu) (hd : d < 6) (h0 : t0 < 2197) (hl : ∀ n, n < 3 → lgN n ≤ 4) (hsc : ∀ n, n < 3 → Lim 24 99 (scN n)) (hpc : ∀ n, n < 3 → Lim 16 99 (pcN n)) (hnd : Lim 24 3 nd) (hδ : ∀ p, p < 3 * d + 2 → ∀ t s, δ p t s = tr_d D lgN fbN fxN nd p t s) (hδ2 : ∀ t s, δ (3 * d + 2) t s = tr_r D lgN fbN fxN (3 * d + 2) t s) (hS : TInv δ (tr_k scN pcN ch) t0 (3 * d + 3) k) :
    ∃ k', f_Rs_dropShort fu (mI d) k nd = some k' ∧ TInv (tr_d D lgN fbN fxN nd) (tr_k scN pcN ch) t0 (3 * d + 3) k' := by
  have hN : NO = 2 ^ 62 := by decide
  have hζ : ∃ ζ : Nat → Int, ∀ t, t < 2197 → k t = jJ (ζ t) ∧ IsMin (dp_B δ t0 (3 * d + 3) t) (dp_K δ (tr_k scN pcN ch) t0 (3 * d + 3)) (ζ t) := by
    refine ⟨fun t => if h : t < 2197 then Classical.choose (hS t h) else 0, fun t ht => ?_⟩
    dsimp only
    rw [dif_pos ht]
    exact Classical.choose_spec (hS t ht)
  obtain ⟨ζ, hζ⟩ := hζ
  have hK := tr_K_bd (δ := δ) (t0 := t0) (ch := ch) hsc hpc (3 * d + 3) (by omega)
  obtain ⟨k', h1, h2⟩ := p_dropShort (fu := fu) (k := k) (ζ := ζ) hfu hd hnd (fun t ht => by
    have := isMin_rng (L := 2 ^ 60) hK (by omega) (hζ t ht).2
    exact ⟨(hζ t ht).1, by omega, by omega⟩)
  refine ⟨k', h1, fun t ht => ⟨_, h2 t ht, ?_⟩⟩
  have hm := isMin_filter (δ := tr_d D lgN fbN fxN nd) (δ2 := δ) (p := 3 * d + 2) (f := tr_ok nd (3 * d + 2)) (fun p hp t s => (hδ p hp t s).symm) (fun t s => by rw [hδ2]; rfl) (hζ t ht).2
  have e : (if ζ t = NO ∨ 0 < shc (ζ t) d nd 3 then NO else ζ t) = if tr_ok nd (3 * d + 2) t = true then ζ t else NO := by
    by_cases hz : ζ t = NO
    · rw [if_pos (.inl hz), hz]
      split <;> rfl
    · rcases (hζ t ht).2 with ⟨q, _⟩ | ⟨c, q1, q2, _⟩
      · exact absurd q hz
      · have q1 := of_decide_eq_true q1
        have kc := key_code (δ := δ) (κ := tr_k scN pcN ch) (wt := tr_w scN pcN ch) (t0 := t0) (P := 18) (by omega) (fun p t s _ => rfl) (3 * d + 3) (by omega) c t q1
        have hs : ∀ n, n < 3 → dg (ζ t) d n = sh (st3 t n) := by
          intro n hn
          rw [q2, kc, dg_code hd hn, tri_sh hl h0 hδ hδ2 q1 n hn]
        rw [shc_shs hs]
        have eo : tr_ok nd (3 * d + 2) t = !decide (0 < shs nd d t 3) := by
          unfold tr_ok
          rw [show (3 * d + 2) % 3 = 2 by omega, show (3 * d + 2) / 3 = d by omega]
          simp
        rw [eo]
        by_cases hq : 0 < shs nd d t 3
        · rw [if_pos (.inr hq)]; simp [hq]
        · rw [if_neg (fun h => by rcases h with h | h; exact hz h; exact hq h)]; simp [hq]
  rw [e]
  exact hm
