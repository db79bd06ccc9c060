/-! the digits of a triple's key are the shifts of its states -/
theorem dg_code {W : Int} {c d n : Nat} (hd : d < 6) (hn : n < 3) : dg (W * 2 ^ 36 + (c : Int) * 4 ^ (18 - (3 * d + 3))) d n = c / 4 ^ (2 - n) % 4 := by
  unfold dg
  have : d = 0 ∨ d = 1 ∨ d = 2 ∨ d = 3 ∨ d = 4 ∨ d = 5 := by omega
  rcases this with rfl | rfl | rfl | rfl | rfl | rfl <;> rcases n3 hn with rfl | rfl | rfl <;> simp only [Nat.reduceMul, Nat.reduceAdd, Nat.reduceSub] <;> omega
theorem tri_lt {D : Nat} {lgN : Nat → Nat} {fbN : Nat → Int32} {fxN : Nat → Nat → Int32} {nd : Nat → Int32} {t0 : Nat} (hl : ∀ n, n < 3 → lgN n ≤ 4) (h0 : t0 < 2197) {p c t : Nat} (h : dp_T (tr_d D lgN fbN fxN nd) t0 p c = some t) : t < 2197 :=
  tt_st h0 (fun p t s t' h ht hs => tr_lt hl p t s t' (tr_of h).1 ht hs) h
theorem tri_sh {D : Nat} {lgN : Nat → Nat} {fbN : Nat → Int32} {fxN : Nat → Nat → Int32} {nd : Nat → Int32} {t0 : Nat} (hl : ∀ n, n < 3 → lgN n ≤ 4) (h0 : t0 < 2197) {δ : Nat → Nat → Nat → Option Nat} {d c t : Nat} (hδ : ∀ p, p < 3 * d + 2 → ∀ t s, δ p t s = tr_d D lgN fbN fxN nd p t s) (hδ2 : ∀ t s, δ (3 * d + 2) t s = tr_r D lgN fbN fxN (3 * d + 2) t s) (h : dp_T δ t0 (3 * d + 3) c = some t) : ∀ n, n < 3 → sh (st3 t n) = c / 4 ^ (2 - n) % 4 := by
  obtain ⟨t2, a1, a2⟩ := ob (show (dp_T δ t0 (3 * d + 2) (c / 4)).bind (fun t => δ (3 * d + 2) t (c % 4)) = some t from h)
  rw [dpT_congr hδ (3 * d + 2) (Nat.le_refl _)] at a1
  rw [hδ2] at a2
  obtain ⟨t1, b1, b2⟩ := ob (show (dp_T (tr_d D lgN fbN fxN nd) t0 (3 * d + 1) (c / 4 / 4)).bind (fun t => tr_d D lgN fbN fxN nd (3 * d + 1) t (c / 4 % 4)) = some t2 from a1)
  obtain ⟨t9, c1, c2⟩ := ob (show (dp_T (tr_d D lgN fbN fxN nd) t0 (3 * d) (c / 4 / 4 / 4)).bind (fun t => tr_d D lgN fbN fxN nd (3 * d) t (c / 4 / 4 % 4)) = some t1 from b1)
  have l2 := tri_lt hl h0 a1
  have l1 := tri_lt hl h0 b1
  have l9 := tri_lt hl h0 c1
  have m2 := tr_st hl l2 (by omega) a2
  have m1 := tr_st hl l1 (by omega) (tr_of b2).1
  have m0 := tr_st hl l9 (by omega) (tr_of c2).1
  rw [show (3 * d + 2) % 3 = 2 by omega] at m2
  rw [show (3 * d + 1) % 3 = 1 by omega] at m1
  rw [show (3 * d) % 3 = 0 by omega] at m0
  intro n hn
  rcases n3 hn with rfl | rfl | rfl
  · rw [m2.2 0 (by omega) (by omega), m1.2 0 (by omega) (by omega), m0.1]
    show _ = c / 16 % 4
    omega
  · rw [m2.2 1 (by omega) (by omega), m1.1]
  · rw [m2.1]
    show _ = c / 1 % 4
    omega
