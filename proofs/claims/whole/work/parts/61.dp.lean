/-! walks of all codes at once: the least key and the number of codes for each state -/
def NO : Int := 4611686018427387904
def IsMin (P : Nat → Bool) (K : Nat → Int) (v : Int) : Prop := (v = NO ∧ ∀ c, P c = false) ∨ ∃ c, P c = true ∧ v = K c ∧ ∀ c', P c' = true → K c ≤ K c'
def cnt (p : Nat → Bool) : Nat → Nat
  | 0 => 0
  | n + 1 => cnt p n + if p n = true then 1 else 0
theorem isMin_congr {P P' : Nat → Bool} {K K' : Nat → Int} {v : Int} (h : ∀ c, P c = P' c) (hk : ∀ c, P c = true → K c = K' c) (hm : IsMin P K v) : IsMin P' K' v := by
  rcases hm with ⟨h1, h2⟩ | ⟨c, h1, h2, h3⟩
  · exact .inl ⟨h1, fun c => by rw [← h c]; exact h2 c⟩
  · refine .inr ⟨c, by rw [← h c]; exact h1, by rw [← hk c h1]; exact h2, fun c' h' => ?_⟩
    have e : P c' = true := by rw [h c']; exact h'
    rw [← hk c h1, ← hk c' e]; exact h3 c' e
theorem isMin_none {P : Nat → Bool} {K : Nat → Int} (h : ∀ c, P c = false) : IsMin P K NO := .inl ⟨rfl, h⟩
theorem isMin_or {P Q : Nat → Bool} {K : Nat → Int} {v w : Int} (hP : ∀ c, P c = true → K c < NO) (hQ : ∀ c, Q c = true → K c < NO) (h1 : IsMin P K v) (h2 : IsMin Q K w) : IsMin (fun c => P c || Q c) K (if w < v then w else v) := by
  rcases h1 with ⟨h1, h1'⟩ | ⟨c, h1, h1', h1''⟩
  · rcases h2 with ⟨h2, h2'⟩ | ⟨c, h2, h2', h2''⟩
    · rw [h1, h2, if_neg (by omega)]
      exact .inl ⟨rfl, fun c => by simp [h1' c, h2' c]⟩
    · have := hQ c h2
      rw [if_pos (by rw [h1, h2']; exact this)]
      refine .inr ⟨c, by simp [h2], h2', fun c' h' => ?_⟩
      have h' : P c' = true ∨ Q c' = true := by simpa using h'
      rcases h' with h' | h'
      · rw [h1' c'] at h'; cases h'
      · exact h2'' c' h'
  · have b1 := hP c h1
    rcases h2 with ⟨h2, h2'⟩ | ⟨e, h2, h2', h2''⟩
    · rw [if_neg (by rw [h2, h1']; omega)]
      refine .inr ⟨c, by simp [h1], h1', fun c' h' => ?_⟩
      have h' : P c' = true ∨ Q c' = true := by simpa using h'
      rcases h' with h' | h'
      · exact h1'' c' h'
      · rw [h2' c'] at h'; cases h'
    · by_cases hl : w < v
      · rw [if_pos hl]
        refine .inr ⟨e, by simp [h2], h2', fun c' h' => ?_⟩
        have h' : P c' = true ∨ Q c' = true := by simpa using h'
        rcases h' with h' | h'
        · have := h1'' c' h'; omega
        · exact h2'' c' h'
      · rw [if_neg hl]
        refine .inr ⟨c, by simp [h1], h1', fun c' h' => ?_⟩
        have h' : P c' = true ∨ Q c' = true := by simpa using h'
        rcases h' with h' | h'
        · exact h1'' c' h'
        · have := h2'' c' h'; omega
theorem isMin_no {P : Nat → Bool} {K : Nat → Int} {v : Int} (hP : ∀ c, P c = true → K c < NO) (h : IsMin P K v) : v = NO ↔ ∀ c, P c = false := by
  rcases h with ⟨h1, h2⟩ | ⟨c, h1, h2, h3⟩
  · exact ⟨fun _ => h2, fun _ => h1⟩
  · have := hP c h1
    refine ⟨fun e => by omega, fun e => ?_⟩
    rw [e c] at h1; cases h1
theorem isMin_uniq {P : Nat → Bool} {K : Nat → Int} {v w : Int} (h1 : IsMin P K v) (h2 : IsMin P K w) : v = w := by
  rcases h1 with ⟨h1, h1'⟩ | ⟨c, h1, h1', h1''⟩
  · rcases h2 with ⟨h2, h2'⟩ | ⟨e, h2, h2', h2''⟩
    · rw [h1, h2]
    · rw [h1' e] at h2; cases h2
  · rcases h2 with ⟨h2, h2'⟩ | ⟨e, h2, h2', h2''⟩
    · rw [h2' c] at h1; cases h1
    · have a := h1'' e h2
      have b := h2'' c h1
      omega
theorem cnt_congr {p q : Nat → Bool} {n : Nat} (h : ∀ c, c < n → p c = q c) : cnt p n = cnt q n := by
  induction n with
  | zero => rfl
  | succ n ih =>
    show cnt p n + _ = cnt q n + _
    rw [ih (fun c hc => h c (by omega)), h n (by omega)]
theorem cnt_zero {p : Nat → Bool} {n : Nat} (h : ∀ c, c < n → p c = false) : cnt p n = 0 := by
  induction n with
  | zero => rfl
  | succ n ih =>
    show cnt p n + _ = 0
    rw [ih (fun c hc => h c (by omega)), h n (by omega)]
    rfl
theorem cnt_or {p q : Nat → Bool} (h : ∀ c, p c = true → q c = false) (n : Nat) : cnt (fun c => p c || q c) n = cnt p n + cnt q n := by
  induction n with
  | zero => rfl
  | succ n ih =>
    show cnt _ n + _ = (cnt p n + _) + (cnt q n + _)
    rw [ih]
    have := h n
    cases hp : p n <;> cases hq : q n <;> simp_all <;> omega
theorem cnt_le (p : Nat → Bool) (n : Nat) : cnt p n ≤ n := by
  induction n with
  | zero => exact Nat.le_refl 0
  | succ n ih =>
    show cnt p n + _ ≤ n + 1
    split <;> omega
theorem cnt_digit {s : Nat} (hs : s < 4) (p : Nat → Bool) (n : Nat) : cnt (fun c => decide (c % 4 = s) && p (c / 4)) (4 * n) = cnt p n := by
  induction n with
  | zero => rfl
  | succ n ih =>
    have e : 4 * (n + 1) = 4 * n + 1 + 1 + 1 + 1 := by omega
    rw [e]
    show (((cnt _ (4 * n) + _) + _) + _) + _ = cnt p n + _
    rw [ih]
    have q0 : (4 * n) / 4 = n := by omega
    have q1 : (4 * n + 1) / 4 = n := by omega
    have q2 : (4 * n + 1 + 1) / 4 = n := by omega
    have q3 : (4 * n + 1 + 1 + 1) / 4 = n := by omega
    have m0 : (4 * n) % 4 = 0 := by omega
    have m1 : (4 * n + 1) % 4 = 1 := by omega
    have m2 : (4 * n + 1 + 1) % 4 = 2 := by omega
    have m3 : (4 * n + 1 + 1 + 1) % 4 = 3 := by omega
    simp only [q0, q1, q2, q3, m0, m1, m2, m3]
    have : s = 0 ∨ s = 1 ∨ s = 2 ∨ s = 3 := by omega
    rcases this with rfl | rfl | rfl | rfl <;> cases p n <;> simp
/-! T d c: the state that the code c of d places leads to -/
def dp_T (δ : Nat → Nat → Nat → Option Nat) (t0 : Nat) : Nat → Nat → Option Nat
  | 0, c => if c = 0 then some t0 else none
  | d + 1, c => (dp_T δ t0 d (c / 4)).bind fun t => δ d t (c % 4)
def dp_K (δ : Nat → Nat → Nat → Option Nat) (κ : Nat → Nat → Nat → Int) (t0 : Nat) : Nat → Nat → Int
  | 0, _ => 0
  | d + 1, c => dp_K δ κ t0 d (c / 4) + match dp_T δ t0 d (c / 4) with
    | some t => κ d t (c % 4)
    | none => 0
theorem tt_lt {δ : Nat → Nat → Nat → Option Nat} {t0 : Nat} : ∀ {d c t : Nat}, dp_T δ t0 d c = some t → c < 4 ^ d := by
  intro d
  induction d with
  | zero =>
    intro c t h
    unfold dp_T at h
    split at h
    · omega
    · cases h
  | succ d ih =>
    intro c t h
    unfold dp_T at h
    obtain ⟨u, h1, h2⟩ := ob h
    have := ih h1
    rw [Nat.pow_succ]
    omega
theorem tt_st {δ : Nat → Nat → Nat → Option Nat} {t0 N : Nat} (h0 : t0 < N) (hd : ∀ d t s t', δ d t s = some t' → t < N → s < 4 → t' < N) : ∀ {d c t : Nat}, dp_T δ t0 d c = some t → t < N := by
  intro d
  induction d with
  | zero =>
    intro c t h
    unfold dp_T at h
    split at h
    · cases h; exact h0
    · cases h
  | succ d ih =>
    intro c t h
    unfold dp_T at h
    obtain ⟨u, h1, h2⟩ := ob h
    exact hd _ _ _ _ h2 (ih h1) (by omega)
theorem kk_le {δ : Nat → Nat → Nat → Option Nat} {κ : Nat → Nat → Nat → Int} {t0 : Nat} {B : Int} (hB : 0 ≤ B) (h : ∀ d t s, κ d t s ≤ B) : ∀ (d c : Nat), dp_K δ κ t0 d c ≤ d * B := by
  intro d
  induction d with
  | zero => intro c; show (0 : Int) ≤ _; omega
  | succ d ih =>
    intro c
    unfold dp_K
    have h1 := ih (c / 4)
    have e : ((d + 1 : Nat) : Int) * B = d * B + B := by rw [Int.natCast_add, Int.add_mul]; simp
    rw [e]
    split
    · rename_i t _
      have := h d t (c % 4)
      omega
    · omega
def dp_Q (δ : Nat → Nat → Nat → Option Nat) (t0 d t' n s : Nat) (c : Nat) : Bool := match dp_T δ t0 d (c / 4) with
  | none => false
  | some t => (decide (t < n) || (decide (t = n) && decide (c % 4 < s))) && decide (δ d t (c % 4) = some t')
def dp_B (δ : Nat → Nat → Nat → Option Nat) (t0 d t : Nat) (c : Nat) : Bool := decide (dp_T δ t0 d c = some t)
theorem qq_zero {δ : Nat → Nat → Nat → Option Nat} {t0 d t' : Nat} (c : Nat) : dp_Q δ t0 d t' 0 0 c = false := by
  unfold dp_Q
  cases dp_T δ t0 d (c / 4) <;> simp
theorem qq_row {δ : Nat → Nat → Nat → Option Nat} {t0 d t' n : Nat} (c : Nat) : dp_Q δ t0 d t' n 4 c = dp_Q δ t0 d t' (n + 1) 0 c := by
  unfold dp_Q
  have : c % 4 < 4 := by omega
  cases dp_T δ t0 d (c / 4) with
  | none => rfl
  | some t =>
    have e : (decide (t < n) || (decide (t = n) && decide (c % 4 < 4))) = (decide (t < n + 1) || (decide (t = n + 1) && decide (c % 4 < 0))) := by
      rw [Bool.eq_iff_iff]; simp [this]; omega
    simp only [e]
theorem qq_none {δ : Nat → Nat → Nat → Option Nat} {t0 d t' n : Nat} (h : ∀ c, dp_B δ t0 d n c = false) (c : Nat) : dp_Q δ t0 d t' n 0 c = dp_Q δ t0 d t' (n + 1) 0 c := by
  have hc := h (c / 4)
  unfold dp_B at hc
  unfold dp_Q
  cases e : dp_T δ t0 d (c / 4) with
  | none => rfl
  | some t =>
    rw [e] at hc
    have hn : t ≠ n := by intro q; rw [q] at hc; simp at hc
    have e2 : (decide (t < n) || (decide (t = n) && decide (c % 4 < 0))) = (decide (t < n + 1) || (decide (t = n + 1) && decide (c % 4 < 0))) := by
      rw [Bool.eq_iff_iff]; simp; omega
    simp only [e2]
theorem qq_end {δ : Nat → Nat → Nat → Option Nat} {t0 d t' N : Nat} (h : ∀ c t, dp_T δ t0 d c = some t → t < N) (c : Nat) : dp_Q δ t0 d t' N 0 c = dp_B δ t0 (d + 1) t' c := by
  unfold dp_Q dp_B
  show _ = decide ((dp_T δ t0 d (c / 4)).bind (fun t => δ d t (c % 4)) = some t')
  cases e : dp_T δ t0 d (c / 4) with
  | none => simp
  | some t =>
    have := h _ _ e
    simp [this]
theorem qq_step {δ : Nat → Nat → Nat → Option Nat} {t0 d t' n s : Nat} (c : Nat) : dp_Q δ t0 d t' n (s + 1) c = (dp_Q δ t0 d t' n s c || (decide (c % 4 = s) && (dp_B δ t0 d n (c / 4) && decide (δ d n s = some t')))) := by
  unfold dp_Q dp_B
  cases e : dp_T δ t0 d (c / 4) with
  | none => simp
  | some t =>
    by_cases ht : t = n
    · subst ht
      by_cases hs : c % 4 = s
      · subst hs
        simp
      · have e2 : decide (c % 4 < s + 1) = decide (c % 4 < s) := by rw [Bool.eq_iff_iff]; simp; omega
        simp [hs, e2]
    · simp [ht]
/-- one step out of state n: the least keys -/
theorem step_key {δ : Nat → Nat → Nat → Option Nat} {κ : Nat → Nat → Nat → Int} {t0 d t' n s : Nat} {v k : Int} (hs : s < 4) (hb : ∀ c, dp_K δ κ t0 (d + 1) c < NO) (hk : IsMin (dp_B δ t0 d n) (dp_K δ κ t0 d) k) (hn : k ≠ NO) (hδ : δ d n s = some t') (hv : IsMin (dp_Q δ t0 d t' n s) (dp_K δ κ t0 (d + 1)) v) : IsMin (dp_Q δ t0 d t' n (s + 1)) (dp_K δ κ t0 (d + 1)) (if k + κ d n s < v then k + κ d n s else v) := by
  have h2 : IsMin (fun c => decide (c % 4 = s) && (dp_B δ t0 d n (c / 4) && decide (δ d n s = some t'))) (dp_K δ κ t0 (d + 1)) (k + κ d n s) := by
    rcases hk with ⟨h, _⟩ | ⟨c, h1, h2, h3⟩
    · exact absurd h hn
    · have q : (4 * c + s) / 4 = c := by omega
      have m : (4 * c + s) % 4 = s := by omega
      have kk : ∀ e, dp_B δ t0 d n (e / 4) = true → e % 4 = s → dp_K δ κ t0 (d + 1) e = dp_K δ κ t0 d (e / 4) + κ d n s := by
        intro e he hm
        unfold dp_B at he
        have he := of_decide_eq_true he
        show dp_K δ κ t0 d (e / 4) + _ = _
        rw [he, hm]
      refine .inr ⟨4 * c + s, by simp [q, m, h1, hδ], ?_, fun c' h' => ?_⟩
      · rw [kk _ (by rw [q]; exact h1) m, q, h2]
      · have h' : c' % 4 = s ∧ dp_B δ t0 d n (c' / 4) = true ∧ δ d n s = some t' := by simpa using h'
        have := h3 (c' / 4) h'.2.1
        rw [kk _ (by rw [q]; exact h1) m, q, kk _ h'.2.1 h'.1]
        omega
  exact isMin_congr (fun c => (qq_step c).symm) (fun _ _ => rfl) (isMin_or (fun c _ => hb c) (fun c _ => hb c) hv h2)
theorem step_no {δ : Nat → Nat → Nat → Option Nat} {t0 d t' n s : Nat} (hδ : δ d n s ≠ some t') (c : Nat) : dp_Q δ t0 d t' n (s + 1) c = dp_Q δ t0 d t' n s c := by
  rw [qq_step c]
  simp [hδ]
theorem step_cnt {δ : Nat → Nat → Nat → Option Nat} {t0 d t' n s : Nat} (hs : s < 4) (hδ : δ d n s = some t') (m : Nat) : cnt (dp_Q δ t0 d t' n (s + 1)) (4 * m) = cnt (dp_Q δ t0 d t' n s) (4 * m) + cnt (dp_B δ t0 d n) m := by
  rw [cnt_congr (fun c _ => qq_step c), cnt_or]
  · congr 1
    rw [← cnt_digit hs (dp_B δ t0 d n) m]
    exact cnt_congr (fun c _ => by simp [hδ])
  · intro c hc
    unfold dp_Q at hc
    unfold dp_B
    cases e : dp_T δ t0 d (c / 4) with
    | none => simp
    | some t =>
      rw [e] at hc
      simp at hc
      by_cases hm : c % 4 = s
      · by_cases ht : t = n
        · exfalso; omega
        · simp [ht]
      · simp [hm]
