/-! triples of states -/
def sg (n : Nat) : Nat := if n = 0 then 169 else if n = 1 then 13 else 1
def st3 (t n : Nat) : Nat := t / sg n % 13
def nx (n t u : Nat) : Nat := t - sg n * (t / sg n % 13) + sg n * u
def tm (t s : Nat) : Nat → Int
  | 0 => 0
  | n + 1 => tm t s n + if sh (st3 t n) = s then 1 else 0
def shs (nd : Nat → Int32) (d t : Nat) : Nat → Nat
  | 0 => 0
  | k + 1 => shs nd d t k + if 0 < (nd (4 * d + (k + 1))).toInt - tm t (k + 1) 3 then 1 else 0
theorem n3 {n : Nat} (h : n < 3) : n = 0 ∨ n = 1 ∨ n = 2 := by omega
theorem nx_lt {n t u : Nat} (hn : n < 3) (ht : t < 2197) (hu : u < 13) : nx n t u < 2197 := by
  unfold nx
  rcases n3 hn with rfl | rfl | rfl <;> simp [sg] <;> omega
theorem st_nx {n t u : Nat} (hn : n < 3) (ht : t < 2197) (hu : u < 13) : st3 (nx n t u) n = u := by
  unfold nx st3
  rcases n3 hn with rfl | rfl | rfl <;> simp [sg] <;> omega
theorem st_nx_ne {n m t u : Nat} (hn : n < 3) (hm : m < 3) (h : m ≠ n) (ht : t < 2197) (hu : u < 13) : st3 (nx n t u) m = st3 t m := by
  unfold nx st3
  rcases n3 hn with rfl | rfl | rfl <;> rcases n3 hm with rfl | rfl | rfl <;> first | exact absurd rfl h | (simp [sg]; omega)
theorem st_lt (t n : Nat) : st3 t n < 13 := Nat.mod_lt _ (by omega)
theorem ms_tm {z : Int} {d t : Nat} (h : ∀ n, n < 3 → dg z d n = sh (st3 t n)) (s : Nat) : ∀ n, n ≤ 3 → ms z d s n = tm t s n := by
  intro n
  induction n with
  | zero => intro _; rfl
  | succ n ih =>
    intro hn
    unfold ms tm
    rw [ih (by omega), h n (by omega)]
theorem shc_shs {z : Int} {d t : Nat} {nd : Nat → Int32} (h : ∀ n, n < 3 → dg z d n = sh (st3 t n)) : ∀ k, shc z d nd k = shs nd d t k := by
  intro k
  induction k with
  | zero => rfl
  | succ k ih =>
    unfold shc shs
    rw [ih, ms_tm h (k + 1) 3 (Nat.le_refl 3)]
def tr_r (D : Nat) (lgN : Nat → Nat) (fbN : Nat → Int32) (fxN : Nat → Nat → Int32) (p t s : Nat) : Option Nat := (cl_d D (lgN (p % 3)) (fbN (p % 3)) (fxN (p % 3)) (p / 3) (st3 t (p % 3)) s).map (nx (p % 3) t)
def tr_ok (nd : Nat → Int32) (p u : Nat) : Bool := !(decide (p % 3 = 2) && decide (0 < shs nd (p / 3) u 3))
def tr_d (D : Nat) (lgN : Nat → Nat) (fbN : Nat → Int32) (fxN : Nat → Nat → Int32) (nd : Nat → Int32) (p t s : Nat) : Option Nat := (tr_r D lgN fbN fxN p t s).bind fun u => if tr_ok nd p u = true then some u else none
def tr_w (scN pcN : Nat → Nat → Int32) (ch : Nat → Nat → Bool) (p t s : Nat) : Int := (scN (p % 3) (4 * (p / 3) + s)).toInt + (pcN (p % 3) (4 * sh (st3 t (p % 3)) + s)).toInt + if ch p s = true then 4096 else 0
def tr_k (scN pcN : Nat → Nat → Int32) (ch : Nat → Nat → Bool) (p t s : Nat) : Int := tr_w scN pcN ch p t s * 2 ^ 36 + (s : Int) * 4 ^ (17 - p)
theorem tr_lt {D : Nat} {lgN : Nat → Nat} {fbN : Nat → Int32} {fxN : Nat → Nat → Int32} (hl : ∀ n, n < 3 → lgN n ≤ 4) : ∀ p t s t', tr_r D lgN fbN fxN p t s = some t' → t < 2197 → s < 4 → t' < 2197 := by
  intro p t s t' h ht hs
  unfold tr_r at h
  obtain ⟨u, h1, h2⟩ := Option.map_eq_some_iff.1 h
  subst h2
  have hn : p % 3 < 3 := Nat.mod_lt _ (by omega)
  exact nx_lt hn ht (cl_lt (hl _ hn) _ _ _ _ h1 (st_lt _ _) hs)
theorem tr_of {D : Nat} {lgN : Nat → Nat} {fbN : Nat → Int32} {fxN : Nat → Nat → Int32} {nd : Nat → Int32} {p t s t' : Nat} (h : tr_d D lgN fbN fxN nd p t s = some t') : tr_r D lgN fbN fxN p t s = some t' ∧ tr_ok nd p t' = true := by
  obtain ⟨u, h1, h2⟩ := ob h
  by_cases hu : tr_ok nd p u = true
  · rw [if_pos hu] at h2; cases h2; exact ⟨h1, hu⟩
  · rw [if_neg hu] at h2; cases h2
theorem tr_st {D : Nat} {lgN : Nat → Nat} {fbN : Nat → Int32} {fxN : Nat → Nat → Int32} {p t s t' : Nat} (hl : ∀ n, n < 3 → lgN n ≤ 4) (ht : t < 2197) (hs : s < 4) (h : tr_r D lgN fbN fxN p t s = some t') : sh (st3 t' (p % 3)) = s ∧ ∀ m, m < 3 → m ≠ p % 3 → st3 t' m = st3 t m := by
  unfold tr_r at h
  obtain ⟨u, h1, h2⟩ := Option.map_eq_some_iff.1 h
  subst h2
  have hn : p % 3 < 3 := Nat.mod_lt _ (by omega)
  have hu := cl_lt (hl _ hn) _ _ _ _ h1 (st_lt _ _) hs
  refine ⟨?_, fun m hm hne => st_nx_ne hn hm hne ht hu⟩
  rw [st_nx hn ht hu]
  exact cl_sh _ _ _ _ h1 hs
/-- what readSteps leaves is what a place wants -/
theorem pl_of {D p : Nat} {lgN : Nat → Nat} {fbN : Nat → Int32} {fxN scN pcN : Nat → Nat → Int32} {ch : Nat → Nat → Bool} {δ : Nat → Nat → Nat → Option Nat} {sa : Nat → Int32} {ss : Nat → Int64} (hp : p < 18) (hl : ∀ n, n < 3 → lgN n ≤ 4) (hδ : ∀ t s, δ p t s = tr_r D lgN fbN fxN p t s)
    (h : ∀ x s, x < 13 → s < 4 → sa (4 * x + s) = enc (cl_d D (lgN (p % 3)) (fbN (p % 3)) (fxN (p % 3)) (p / 3) x s) ∧ ss (4 * x + s) = jJ (rk (p % 3) (scN (p % 3)) (pcN (p % 3)) (ch p) (p / 3) x s)) : Pl δ (tr_k scN pcN ch) p (sg (p % 3)) sa ss := by
  intro t s ht hs
  have hn : p % 3 < 3 := Nat.mod_lt _ (by omega)
  obtain ⟨h1, h2⟩ := h (t / sg (p % 3) % 13) s (Nat.mod_lt _ (by omega)) hs
  refine ⟨?_, ?_⟩
  · rw [hδ, h1]
    unfold tr_r
    show _ ∨ ∃ u, _ ∧ _ ∧ Option.map _ (cl_d _ _ _ _ _ (t / sg (p % 3) % 13) s) = _
    cases hc : cl_d D (lgN (p % 3)) (fbN (p % 3)) (fxN (p % 3)) (p / 3) (t / sg (p % 3) % 13) s with
    | none => left; exact ⟨rfl, by show Option.map _ (cl_d _ _ _ _ _ (t / sg (p % 3) % 13) s) = _; rw [hc]; rfl⟩
    | some u => right; exact ⟨u, cl_lt (hl _ hn) _ _ _ _ hc (Nat.mod_lt _ (by omega)) hs, rfl, rfl⟩
  · rw [h2]
    congr 1
    unfold rk tr_k tr_w
    show _ = ((scN (p % 3) (4 * (p / 3) + s)).toInt + (pcN (p % 3) (4 * sh (t / sg (p % 3) % 13) + s)).toInt + if ch p s = true then 4096 else 0) * 2 ^ 36 + (s : Int) * 4 ^ (17 - p)
    congr 2
    rw [show 36 - 2 * (3 * (p / 3) + p % 3 + 1) = 2 * (17 - p) by omega, Int.pow_mul]
    rfl
