/-! the least weight of what is left, and the first code of least weight -/
def lmv (val : Nat → Option Int) : Nat → Int
  | 0 => FAR
  | K + 1 => match val K with
    | none => lmv val K
    | some w => if lmv val K ≤ w then lmv val K else w
theorem lmv_LM {val : Nat → Option Int} : ∀ {K : Nat}, (∀ k v, k < K → val k = some v → v < FAR) → LM val K (lmv val K) := by
  intro K
  induction K with
  | zero => intro _; exact .inl ⟨rfl, fun k hk => by omega⟩
  | succ K ih =>
    intro h
    have hm := ih (fun k v hk hv => h k v (by omega) hv)
    unfold lmv
    cases hv : val K with
    | none => exact lm_none hv hm
    | some w => exact lm_some hv (h K w (by omega) hv) hm
theorem lm_uniq {val : Nat → Option Int} {K : Nat} {v w : Int} (h1 : LM val K v) (h2 : LM val K w) : v = w := by
  rcases h1 with ⟨a1, a2⟩ | ⟨k, a1, a2, a3⟩
  · rcases h2 with ⟨b1, b2⟩ | ⟨k, b1, b2, b3⟩
    · rw [a1, b1]
    · rw [a2 k b1] at b2; cases b2
  · rcases h2 with ⟨b1, b2⟩ | ⟨k', b1, b2, b3⟩
    · rw [b2 k a1] at a2; cases a2
    · have := a3 k' w b1 b2
      have := b3 k v a1 a2
      omega
theorem lm_le {val : Nat → Option Int} {K k : Nat} {v w : Int} (h : LM val K v) (hk : k < K) (hw : val k = some w) : v ≤ w := by
  rcases h with ⟨a1, a2⟩ | ⟨k', a1, a2, a3⟩
  · rw [a2 k hk] at hw; cases hw
  · exact a3 k w hk hw
def rs (S : Nat → Nat → Nat → Option Nat) (W : Nat → Nat → Nat → Int) (D : Nat) : Nat → Nat → Int
  | 0, _ => 0
  | m + 1, t => lmv (fun k => (S (D - (m + 1)) t k).bind fun u => if rs S W D m u = FAR then none else some (W (D - (m + 1)) t k + rs S W D m u)) 64
theorem rs_eq {S : Nat → Nat → Nat → Option Nat} {W : Nat → Nat → Nat → Int} {D m t : Nat} : rs S W D (m + 1) t = lmv (vl (S (D - (m + 1)) t) (W (D - (m + 1)) t) (rs S W D m)) 64 := rfl
theorem rs_all {S : Nat → Nat → Nat → Option Nat} {W : Nat → Nat → Nat → Int} {D : Nat} (hD : D ≤ 6) (hW : ∀ d t k, d < D → k < 64 → 0 ≤ W d t k ∧ W d t k ≤ 600000) : ∀ m, m ≤ D → ∀ t, (rs S W D m t = FAR ∨ (0 ≤ rs S W D m t ∧ rs S W D m t ≤ 600000 * m)) ∧ ∀ m', m = m' + 1 → LM (vl (S (D - m) t) (W (D - m) t) (rs S W D m')) 64 (rs S W D m t) := by
  have hF : FAR = 1000000000 := rfl
  intro m
  induction m with
  | zero => intro _ t; exact ⟨.inr ⟨Int.le_refl _, by show (0 : Int) ≤ _; omega⟩, fun m' h => by omega⟩
  | succ m ih =>
    intro hm t
    have hb : ∀ k v, k < 64 → vl (S (D - (m + 1)) t) (W (D - (m + 1)) t) (rs S W D m) k = some v → 0 ≤ v ∧ v ≤ 600000 * (m + 1 : Nat) := by
      intro k v hk hv
      obtain ⟨u, h1, h2⟩ := ob hv
      have hu := (ih (by omega) u).1
      have hw := hW (D - (m + 1)) t k (by omega) hk
      by_cases e : rs S W D m u = FAR
      · rw [if_pos e] at h2; cases h2
      · rw [if_neg e] at h2
        have h3 : W (D - (m + 1)) t k + rs S W D m u = v := by cases h2; rfl
        omega
    have hL : LM (vl (S (D - (m + 1)) t) (W (D - (m + 1)) t) (rs S W D m)) 64 (rs S W D (m + 1) t) := by
      rw [rs_eq]
      exact lmv_LM (fun k v hk hv => by have := hb k v hk hv; omega)
    refine ⟨?_, fun m' h => ?_⟩
    · rcases hL with ⟨h1, _⟩ | ⟨k, h1, h2, _⟩
      · exact .inl h1
      · exact .inr (hb k _ h1 h2)
    · have : m' = m := by omega
      subst this
      exact hL
def rT (S : Nat → Nat → Nat → Option Nat) (t0 : Nat) : Nat → Nat → Option Nat
  | 0, c => if c = 0 then some t0 else none
  | d + 1, c => (rT S t0 d (c / 64)).bind fun t => S d t (c % 64)
def rW (S : Nat → Nat → Nat → Option Nat) (W : Nat → Nat → Nat → Int) (t0 : Nat) : Nat → Nat → Int
  | 0, _ => 0
  | d + 1, c => rW S W t0 d (c / 64) + match rT S t0 d (c / 64) with
    | some t => W d t (c % 64)
    | none => 0
theorem rW_at {S : Nat → Nat → Nat → Option Nat} {W : Nat → Nat → Nat → Int} {t0 d c t : Nat} (h : rT S t0 d (c / 64) = some t) : rW S W t0 (d + 1) c = rW S W t0 d (c / 64) + W d t (c % 64) := by
  show rW S W t0 d (c / 64) + _ = _
  rw [h]
theorem rs_low {S : Nat → Nat → Nat → Option Nat} {W : Nat → Nat → Nat → Int} {t0 D c T : Nat} (hD : D ≤ 6) (hW : ∀ d t k, d < D → k < 64 → 0 ≤ W d t k ∧ W d t k ≤ 600000) (hT : rT S t0 D c = some T) : ∀ m, m ≤ D → ∃ t, rT S t0 (D - m) (c / 64 ^ m) = some t ∧ rs S W D m t ≠ FAR ∧ rW S W t0 (D - m) (c / 64 ^ m) + rs S W D m t ≤ rW S W t0 D c := by
  have hF : FAR = 1000000000 := rfl
  intro m
  induction m with
  | zero =>
    intro _
    rw [Nat.pow_zero, Nat.div_one]
    refine ⟨T, hT, ?_, ?_⟩
    · show (0 : Int) ≠ FAR; omega
    · show rW S W t0 D c + 0 ≤ _; omega
  | succ m ih =>
    intro hm
    obtain ⟨u, h1, h2, h3⟩ := ih (by omega)
    have ed : D - m = D - (m + 1) + 1 := by omega
    have hdm : D - (m + 1) < D := by omega
    have ec : c / 64 ^ (m + 1) = c / 64 ^ m / 64 := by rw [Nat.div_div_eq_div_mul, Nat.pow_succ]
    rw [ec]
    clear ec
    rw [ed] at h1 h3
    obtain ⟨t, g1, g2⟩ := ob (show (rT S t0 (D - (m + 1)) (c / 64 ^ m / 64)).bind _ = some u from h1)
    rw [rW_at g1] at h3
    have hk : c / 64 ^ m % 64 < 64 := Nat.mod_lt _ (by omega)
    generalize c / 64 ^ m = e at *
    have hv : vl (S (D - (m + 1)) t) (W (D - (m + 1)) t) (rs S W D m) (e % 64) = some (W (D - (m + 1)) t (e % 64) + rs S W D m u) := by
      unfold vl
      rw [g2, sb, if_neg h2]
    obtain ⟨a1, a2⟩ := rs_all (S := S) hD hW (m + 1) hm t
    have := lm_le (a2 m rfl) hk hv
    have hw := hW (D - (m + 1)) t (e % 64) hdm hk
    have hu := (rs_all (S := S) hD hW m (by omega) u).1
    exact ⟨t, g1, by omega, by omega⟩
def GI (S : Nat → Nat → Nat → Option Nat) (W : Nat → Nat → Nat → Int) (t0 D : Nat) (V : Int) (d c t : Nat) : Prop := rT S t0 d c = some t ∧ 0 ≤ rW S W t0 d c ∧ rW S W t0 d c + rs S W D (D - d) t = V ∧ ∀ c' T, rT S t0 D c' = some T → rW S W t0 D c' = V → c ≤ c' / 64 ^ (D - d)
theorem gi_step {S : Nat → Nat → Nat → Option Nat} {W : Nat → Nat → Nat → Int} {t0 D d c t k : Nat} {V : Int} (hD : D ≤ 6) (hd : d < D) (hW : ∀ d t k, d < D → k < 64 → 0 ≤ W d t k ∧ W d t k ≤ 600000) (hk : k < 64) (hV : V < FAR) (h : GI S W t0 D V d c t) (h1 : vl (S d t) (W d t) (rs S W D (D - d - 1)) k = some (rs S W D (D - d) t)) (h2 : ∀ k', k' < k → vl (S d t) (W d t) (rs S W D (D - d - 1)) k' ≠ some (rs S W D (D - d) t)) : ∃ t', S d t k = some t' ∧ GI S W t0 D V (d + 1) (64 * c + k) t' := by
  obtain ⟨i1, i0, i2, i3⟩ := h
  obtain ⟨t', g1, g2⟩ := ob h1
  have e1 : (64 * c + k) / 64 = c := by omega
  have e2 : (64 * c + k) % 64 = k := by omega
  by_cases e : rs S W D (D - d - 1) t' = FAR
  · rw [if_pos e] at g2; cases g2
  · rw [if_neg e] at g2
    have g3 : W d t k + rs S W D (D - d - 1) t' = rs S W D (D - d) t := Option.some.inj g2
    have ew : rW S W t0 (d + 1) (64 * c + k) = rW S W t0 d c + W d t k := by
      rw [rW_at (by rw [e1]; exact i1), e1, e2]
    have hw := hW d t k hd hk
    refine ⟨t', g1, ?_, by omega, ?_, ?_⟩
    · show (rT S t0 d ((64 * c + k) / 64)).bind _ = _
      rw [e1, i1, sb, e2]; exact g1
    · rw [ew, show D - (d + 1) = D - d - 1 by omega]; omega
    · intro c' T hT hv
      have h0 := i3 c' T hT hv
      obtain ⟨u, a1, a2, a3⟩ := rs_low hD hW hT (D - d - 1) (by omega)
      have ed : D - (D - d - 1) = d + 1 := by omega
      rw [ed] at a1 a3
      rw [show D - (d + 1) = D - d - 1 by omega]
      have ec : c' / 64 ^ (D - d) = c' / 64 ^ (D - d - 1) / 64 := by rw [Nat.div_div_eq_div_mul, ← Nat.pow_succ, show (D - d - 1).succ = D - d by omega]
      rw [ec] at h0
      generalize c' / 64 ^ (D - d - 1) = e' at *
      by_cases hq : c = e' / 64
      · obtain ⟨t2, b1, b2⟩ := ob (show (rT S t0 d (e' / 64)).bind _ = some u from a1)
        have : t2 = t := by
          rw [← hq, i1] at b1
          exact (Option.some.inj b1).symm
        subst this
        rw [rW_at b1, ← hq] at a3
        have hk' : e' % 64 < 64 := Nat.mod_lt _ (by omega)
        have hv' : vl (S d t2) (W d t2) (rs S W D (D - d - 1)) (e' % 64) = some (W d t2 (e' % 64) + rs S W D (D - d - 1) u) := by
          unfold vl
          rw [b2, sb, if_neg a2]
        have hl := (rs_all (S := S) hD hW (D - d) (by omega) t2).2 (D - d - 1) (by omega)
        rw [show D - (D - d) = d by omega] at hl
        have := lm_le hl hk' hv'
        have he : rs S W D (D - d) t2 = W d t2 (e' % 64) + rs S W D (D - d - 1) u := by omega
        have : ¬ e' % 64 < k := fun q => h2 _ q (by rw [hv', he])
        omega
      · omega
theorem gi_first {S : Nat → Nat → Nat → Option Nat} {W : Nat → Nat → Nat → Int} {t0 D d c t : Nat} {V : Int} (hD : D ≤ 6) (hd : d < D) (hW : ∀ d t k, d < D → k < 64 → 0 ≤ W d t k ∧ W d t k ≤ 600000) (hV : V < FAR) (h : GI S W t0 D V d c t) : rs S W D (D - d) t ≠ FAR ∧ ∃ k, k < 64 ∧ vl (S d t) (W d t) (rs S W D (D - d - 1)) k = some (rs S W D (D - d) t) := by
  obtain ⟨i1, i0, i2, i3⟩ := h
  have hl := (rs_all (S := S) hD hW (D - d) (by omega) t).2 (D - d - 1) (by omega)
  rw [show D - (D - d) = d by omega] at hl
  have hn : rs S W D (D - d) t ≠ FAR := by omega
  refine ⟨hn, ?_⟩
  rcases hl with ⟨h1, _⟩ | ⟨k, h1, h2, _⟩
  · exact absurd h1 hn
  · exact ⟨k, h1, h2⟩
theorem gi_zero {S : Nat → Nat → Nat → Option Nat} {W : Nat → Nat → Nat → Int} {t0 D : Nat} : GI S W t0 D (rs S W D D t0) 0 0 t0 := ⟨rfl, Int.le_refl _, by show (0 : Int) + _ = _; rw [Nat.sub_zero]; omega, fun _ _ _ _ => Nat.zero_le _⟩
