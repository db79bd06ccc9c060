/-! digits of keys: rosters, and three lines added up -/
theorem p64 (k m : Nat) : (4 : Nat) ^ (3 * k + m) = 64 ^ k * 4 ^ m := by
  rw [Nat.pow_add, Nat.pow_mul]
theorem dg_at {W : Int} {c d n D : Nat} (hd : d < D) (hD : D ≤ 6) (hn : n < 3) : dg (W * 2 ^ 36 + (c : Int) * 4 ^ (18 - 3 * D)) d n = c / 64 ^ (D - 1 - d) / 4 ^ (2 - n) % 4 := by
  unfold dg
  have e1 : (2 : Int) ^ (36 - 2 * (3 * d + n + 1)) = 4 ^ (18 - 3 * D) * 4 ^ (3 * (D - 1 - d) + (2 - n)) := by
    rw [← Int.pow_add, show 36 - 2 * (3 * d + n + 1) = 2 * (18 - 3 * D + (3 * (D - 1 - d) + (2 - n))) by omega, Int.pow_mul]
    rfl
  have e2 : (2 : Int) ^ 36 = 4 ^ (18 - 3 * D) * (4 ^ (3 * (D - 1 - d) + (2 - n)) * (4 * 4 ^ (3 * d + n))) := by
    have : (4 : Int) * 4 ^ (3 * d + n) = 4 ^ (3 * d + n + 1) := by rw [Int.pow_succ, Int.mul_comm]
    rw [this, ← Int.pow_add, ← Int.pow_add, show 18 - 3 * D + (3 * (D - 1 - d) + (2 - n) + (3 * d + n + 1)) = 18 by omega]
    decide
  have e3 : c / 64 ^ (D - 1 - d) / 4 ^ (2 - n) = c / 4 ^ (3 * (D - 1 - d) + (2 - n)) := by rw [Nat.div_div_eq_div_mul, ← p64]
  rw [e1, e2, e3]
  have hg : (0 : Int) < 4 ^ (18 - 3 * D) := Int.pow_pos (by omega)
  have hh : (4 : Int) ^ (3 * (D - 1 - d) + (2 - n)) = ((4 ^ (3 * (D - 1 - d) + (2 - n)) : Nat) : Int) := by simp
  have hp : 0 < (4 : Nat) ^ (3 * (D - 1 - d) + (2 - n)) := Nat.pow_pos (by omega)
  rw [hh]
  generalize (4 : Nat) ^ (3 * (D - 1 - d) + (2 - n)) = h at *
  generalize (4 : Int) ^ (18 - 3 * D) = g at *
  generalize (4 : Int) ^ (3 * d + n) = q at *
  have e4 : W * (g * ((h : Int) * (4 * q))) + (c : Int) * g = g * ((c : Int) + (h : Int) * (4 * (q * W))) := by
    rw [Int.mul_add, Int.add_comm, Int.mul_comm (c : Int) g]
    congr 1
    rw [Int.mul_comm W, Int.mul_assoc, Int.mul_assoc, Int.mul_assoc]
  have hh0 : (h : Int) ≠ 0 := by omega
  rw [e4, Int.mul_ediv_mul_of_pos _ _ hg, Int.add_mul_ediv_left _ _ hh0, Int.add_mul_emod_self_left]
  have : (c : Int) / (h : Int) % 4 = ((c / h % 4 : Nat) : Int) := by simp
  rw [this, Int.toNat_natCast]
def il : Nat → Nat → Nat → Nat → Nat
  | 0, _, _, _ => 0
  | d + 1, a, b, c => 64 * il d (a / 4) (b / 4) (c / 4) + (16 * (a % 4) + 4 * (b % 4) + c % 4)
theorem il_g : ∀ d, d ≤ 6 → ∀ a b c, rf_g 0 d a + rf_g 1 d b + rf_g 2 d c = (il d a b c : Int) * 4 ^ (18 - 3 * d) := by
  intro d
  induction d with
  | zero => intro _ a b c; simp [rf_g, il]
  | succ d ih =>
    intro hd a b c
    have i := ih (by omega) (a / 4) (b / 4) (c / 4)
    have e : ∀ n x, rf_g n (d + 1) x = rf_g n d (x / 4) + ((x % 4 : Nat) : Int) * 2 ^ (36 - 2 * (3 * d + n + 1)) := fun _ _ => rfl
    rw [e, e, e]
    have q0 : (2 : Int) ^ (36 - 2 * (3 * d + 0 + 1)) = 4 ^ (18 - 3 * (d + 1)) * 16 := by
      rw [show 36 - 2 * (3 * d + 0 + 1) = 2 * (18 - 3 * (d + 1) + 2) by omega, Int.pow_mul, Int.pow_add]; rfl
    have q1 : (2 : Int) ^ (36 - 2 * (3 * d + 1 + 1)) = 4 ^ (18 - 3 * (d + 1)) * 4 := by
      rw [show 36 - 2 * (3 * d + 1 + 1) = 2 * (18 - 3 * (d + 1) + 1) by omega, Int.pow_mul, Int.pow_add]; rfl
    have q2 : (2 : Int) ^ (36 - 2 * (3 * d + 2 + 1)) = 4 ^ (18 - 3 * (d + 1)) := by
      rw [show 36 - 2 * (3 * d + 2 + 1) = 2 * (18 - 3 * (d + 1)) by omega, Int.pow_mul]; rfl
    have q3 : (4 : Int) ^ (18 - 3 * d) = 4 ^ (18 - 3 * (d + 1)) * 64 := by
      rw [show 18 - 3 * d = 18 - 3 * (d + 1) + 3 by omega, Int.pow_add]; rfl
    rw [q3] at i
    rw [q0, q1, q2]
    have e2 : (il (d + 1) a b c : Int) = 64 * (il d (a / 4) (b / 4) (c / 4) : Int) + (16 * ((a % 4 : Nat) : Int) + 4 * ((b % 4 : Nat) : Int) + ((c % 4 : Nat) : Int)) := by
      show ((64 * il d (a / 4) (b / 4) (c / 4) + (16 * (a % 4) + 4 * (b % 4) + c % 4) : Nat) : Int) = _
      omega
    rw [e2]
    generalize (4 : Int) ^ (18 - 3 * (d + 1)) = g at *
    generalize rf_g 0 d (a / 4) = g0 at *
    generalize rf_g 1 d (b / 4) = g1 at *
    generalize rf_g 2 d (c / 4) = g2 at *
    generalize (il d (a / 4) (b / 4) (c / 4) : Int) = y at *
    generalize ((a % 4 : Nat) : Int) = x0
    generalize ((b % 4 : Nat) : Int) = x1
    generalize ((c % 4 : Nat) : Int) = x2
    have r1 : (64 * y + (16 * x0 + 4 * x1 + x2)) * g = y * (g * 64) + (x0 * (g * 16) + x1 * (g * 4) + x2 * g) := by
      rw [Int.add_mul, Int.add_mul, Int.add_mul]
      have a1 : 64 * y * g = y * (g * 64) := by rw [Int.mul_comm 64 y, Int.mul_assoc, Int.mul_comm 64 g]
      have a2 : 16 * x0 * g = x0 * (g * 16) := by rw [Int.mul_comm 16 x0, Int.mul_assoc, Int.mul_comm 16 g]
      have a3 : 4 * x1 * g = x1 * (g * 4) := by rw [Int.mul_comm 4 x1, Int.mul_assoc, Int.mul_comm 4 g]
      rw [a1, a2, a3]
    rw [r1, ← i]
    omega
theorem il_lt : ∀ d a b c, il d a b c < 64 ^ d := by
  intro d
  induction d with
  | zero => intro a b c; exact Nat.one_pos
  | succ d ih =>
    intro a b c
    have := ih (a / 4) (b / 4) (c / 4)
    show 64 * il d (a / 4) (b / 4) (c / 4) + _ < 64 ^ (d + 1)
    rw [Nat.pow_succ]
    omega
theorem il_div {d : Nat} : ∀ j a b c, il (d + j) a b c / 64 ^ j = il d (a / 4 ^ j) (b / 4 ^ j) (c / 4 ^ j) := by
  intro j
  induction j with
  | zero => intro a b c; simp
  | succ j ih =>
    intro a b c
    have e : il (d + (j + 1)) a b c / 64 = il (d + j) (a / 4) (b / 4) (c / 4) := by
      show (64 * il (d + j) (a / 4) (b / 4) (c / 4) + (16 * (a % 4) + 4 * (b % 4) + c % 4)) / 64 = _
      omega
    rw [Nat.pow_succ, Nat.mul_comm, ← Nat.div_div_eq_div_mul, e, ih, Nat.div_div_eq_div_mul, Nat.div_div_eq_div_mul, Nat.div_div_eq_div_mul, Nat.pow_succ, Nat.mul_comm (4 ^ j) 4]
def pk {α : Type} (a b c : α) : Nat → α
  | 0 => a
  | 1 => b
  | _ => c
theorem il_n {d a b c n : Nat} (hn : n < 3) : il (d + 1) a b c / 4 ^ (2 - n) % 4 = pk a b c n % 4 := by
  have e : il (d + 1) a b c = 64 * il d (a / 4) (b / 4) (c / 4) + (16 * (a % 4) + 4 * (b % 4) + c % 4) := rfl
  rw [e]
  rcases n3 hn with rfl | rfl | rfl
  · show _ / 16 % 4 = a % 4; omega
  · show _ / 4 % 4 = b % 4; omega
  · show _ / 1 % 4 = c % 4; omega
theorem dg_il {W : Int} {a b c d n D : Nat} (hd : d < D) (hD : D ≤ 6) (hn : n < 3) : dg (W * 2 ^ 36 + (il D a b c : Int) * 4 ^ (18 - 3 * D)) d n = pk a b c n / 4 ^ (D - 1 - d) % 4 := by
  rw [dg_at hd hD hn]
  have e : D = d + 1 + (D - 1 - d) := by omega
  have := @il_div (d + 1) (D - 1 - d) a b c
  rw [← e] at this
  rw [this, il_n hn]
  rcases n3 hn with rfl | rfl | rfl <;> rfl
/-- three keys added up: their weights and all their digits -/
theorem keys3 {D a b c : Nat} {w0 w1 w2 : Int} (hD : D ≤ 6) : (w0 * 2 ^ 36 + rf_g 0 D a) + (w1 * 2 ^ 36 + rf_g 1 D b) + (w2 * 2 ^ 36 + rf_g 2 D c) = (w0 + w1 + w2) * 2 ^ 36 + (il D a b c : Int) * 4 ^ (18 - 3 * D) := by
  rw [← il_g D hD, Int.add_mul, Int.add_mul]
  omega
theorem code_bd {D c : Nat} (hD : D ≤ 6) (hc : c < 64 ^ D) : 0 ≤ (c : Int) * 4 ^ (18 - 3 * D) ∧ (c : Int) * 4 ^ (18 - 3 * D) < 2 ^ 36 := by
  have e : (64 : Nat) ^ D * 4 ^ (18 - 3 * D) = 4 ^ 18 := by
    have := p64 D 0
    rw [Nat.pow_zero, Nat.mul_one, Nat.add_zero] at this
    rw [← this, ← Nat.pow_add]; congr 1; omega
  have h1 : c * 4 ^ (18 - 3 * D) < 64 ^ D * 4 ^ (18 - 3 * D) := Nat.mul_lt_mul_of_pos_right hc (Nat.pow_pos (by omega))
  rw [e] at h1
  have e2 : (c : Int) * 4 ^ (18 - 3 * D) = ((c * 4 ^ (18 - 3 * D) : Nat) : Int) := by simp
  rw [e2]
  have : (4 : Nat) ^ 18 = 2 ^ 36 := by decide
  omega
