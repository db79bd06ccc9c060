/-! the reference's lightest runs so -/
def st64 (C : Nat → Bool) (A0 A1 A2 : Nat → Option Nat) (k : Nat) : Option Nat :=
  if C k = true then (A0 (k / 16)).bind fun a => (A1 (k / 4 % 4)).bind fun b => (A2 (k % 4)).map fun c => 169 * a + 13 * b + c else none
def vl (S : Nat → Option Nat) (W : Nat → Int) (R : Nat → Int) (k : Nat) : Option Int := (S k).bind fun t => if R t = FAR then none else some (W k + R t)
def w64 (W0 W1 W2 : Nat → Int) (k : Nat) : Int := W0 (k / 16) + W1 (k / 4 % 4) + W2 (k % 4)
def LH (d xa xb xc : Nat) (C : Nat → Bool) (A0 A1 A2 : Nat → Option Nat) (W0 W1 W2 : Nat → Int) (R : Nat → Int) (rest af we cv : Nat → Int32) : Prop := (d < 6) ∧ (xa < 13) ∧ (xb < 13) ∧ (xc < 13) ∧ (∀ i, i < 4 → af (4 * xa + i) = enc (A0 i)) ∧ (∀ i, i < 4 → af (52 + 4 * xb + i) = enc (A1 i)) ∧ (∀ i, i < 4 → af (104 + 4 * xc + i) = enc (A2 i)) ∧ (∀ i, i < 4 → we (4 * xa + i) = iI (W0 i)) ∧ (∀ i, i < 4 → we (52 + 4 * xb + i) = iI (W1 i)) ∧ (∀ i, i < 4 → we (104 + 4 * xc + i) = iI (W2 i)) ∧ (∀ i a, i < 4 → A0 i = some a → a < 13) ∧ (∀ i a, i < 4 → A1 i = some a → a < 13) ∧ (∀ i a, i < 4 → A2 i = some a → a < 13) ∧ (∀ i, i < 4 → 0 ≤ W0 i ∧ W0 i ≤ 200000) ∧ (∀ i, i < 4 → 0 ≤ W1 i ∧ W1 i ≤ 200000) ∧ (∀ i, i < 4 → 0 ≤ W2 i ∧ W2 i ≤ 200000) ∧ (∀ k, k < 64 → cv k = bI (C k)) ∧ (∀ i j l a b c, i < 4 → j < 4 → l < 4 → A0 i = some a → A1 j = some b → A2 l = some c → rest (2197 * (d + 1) + (169 * a + 13 * b + c)) = iI (R (169 * a + 13 * b + c))) ∧ (∀ t, R t = FAR ∨ (0 ≤ R t ∧ R t ≤ 4000000))
theorem LH.hd {d xa xb xc : Nat} {C : Nat → Bool} {A0 A1 A2 : Nat → Option Nat} {W0 W1 W2 : Nat → Int} {R : Nat → Int} {rest af we cv : Nat → Int32} (h : LH d xa xb xc C A0 A1 A2 W0 W1 W2 R rest af we cv) : d < 6 := h.1
theorem LH.ha {d xa xb xc : Nat} {C : Nat → Bool} {A0 A1 A2 : Nat → Option Nat} {W0 W1 W2 : Nat → Int} {R : Nat → Int} {rest af we cv : Nat → Int32} (h : LH d xa xb xc C A0 A1 A2 W0 W1 W2 R rest af we cv) : xa < 13 := h.2.1
theorem LH.hb {d xa xb xc : Nat} {C : Nat → Bool} {A0 A1 A2 : Nat → Option Nat} {W0 W1 W2 : Nat → Int} {R : Nat → Int} {rest af we cv : Nat → Int32} (h : LH d xa xb xc C A0 A1 A2 W0 W1 W2 R rest af we cv) : xb < 13 := h.2.2.1
theorem LH.hc {d xa xb xc : Nat} {C : Nat → Bool} {A0 A1 A2 : Nat → Option Nat} {W0 W1 W2 : Nat → Int} {R : Nat → Int} {rest af we cv : Nat → Int32} (h : LH d xa xb xc C A0 A1 A2 W0 W1 W2 R rest af we cv) : xc < 13 := h.2.2.2.1
theorem LH.a0 {d xa xb xc : Nat} {C : Nat → Bool} {A0 A1 A2 : Nat → Option Nat} {W0 W1 W2 : Nat → Int} {R : Nat → Int} {rest af we cv : Nat → Int32} (h : LH d xa xb xc C A0 A1 A2 W0 W1 W2 R rest af we cv) : ∀ i, i < 4 → af (4 * xa + i) = enc (A0 i) := h.2.2.2.2.1
theorem LH.a1 {d xa xb xc : Nat} {C : Nat → Bool} {A0 A1 A2 : Nat → Option Nat} {W0 W1 W2 : Nat → Int} {R : Nat → Int} {rest af we cv : Nat → Int32} (h : LH d xa xb xc C A0 A1 A2 W0 W1 W2 R rest af we cv) : ∀ i, i < 4 → af (52 + 4 * xb + i) = enc (A1 i) := h.2.2.2.2.2.1
theorem LH.a2 {d xa xb xc : Nat} {C : Nat → Bool} {A0 A1 A2 : Nat → Option Nat} {W0 W1 W2 : Nat → Int} {R : Nat → Int} {rest af we cv : Nat → Int32} (h : LH d xa xb xc C A0 A1 A2 W0 W1 W2 R rest af we cv) : ∀ i, i < 4 → af (104 + 4 * xc + i) = enc (A2 i) := h.2.2.2.2.2.2.1
theorem LH.w0 {d xa xb xc : Nat} {C : Nat → Bool} {A0 A1 A2 : Nat → Option Nat} {W0 W1 W2 : Nat → Int} {R : Nat → Int} {rest af we cv : Nat → Int32} (h : LH d xa xb xc C A0 A1 A2 W0 W1 W2 R rest af we cv) : ∀ i, i < 4 → we (4 * xa + i) = iI (W0 i) := h.2.2.2.2.2.2.2.1
theorem LH.w1 {d xa xb xc : Nat} {C : Nat → Bool} {A0 A1 A2 : Nat → Option Nat} {W0 W1 W2 : Nat → Int} {R : Nat → Int} {rest af we cv : Nat → Int32} (h : LH d xa xb xc C A0 A1 A2 W0 W1 W2 R rest af we cv) : ∀ i, i < 4 → we (52 + 4 * xb + i) = iI (W1 i) := h.2.2.2.2.2.2.2.2.1
theorem LH.w2 {d xa xb xc : Nat} {C : Nat → Bool} {A0 A1 A2 : Nat → Option Nat} {W0 W1 W2 : Nat → Int} {R : Nat → Int} {rest af we cv : Nat → Int32} (h : LH d xa xb xc C A0 A1 A2 W0 W1 W2 R rest af we cv) : ∀ i, i < 4 → we (104 + 4 * xc + i) = iI (W2 i) := h.2.2.2.2.2.2.2.2.2.1
theorem LH.l0 {d xa xb xc : Nat} {C : Nat → Bool} {A0 A1 A2 : Nat → Option Nat} {W0 W1 W2 : Nat → Int} {R : Nat → Int} {rest af we cv : Nat → Int32} (h : LH d xa xb xc C A0 A1 A2 W0 W1 W2 R rest af we cv) : ∀ i a, i < 4 → A0 i = some a → a < 13 := h.2.2.2.2.2.2.2.2.2.2.1
theorem LH.l1 {d xa xb xc : Nat} {C : Nat → Bool} {A0 A1 A2 : Nat → Option Nat} {W0 W1 W2 : Nat → Int} {R : Nat → Int} {rest af we cv : Nat → Int32} (h : LH d xa xb xc C A0 A1 A2 W0 W1 W2 R rest af we cv) : ∀ i a, i < 4 → A1 i = some a → a < 13 := h.2.2.2.2.2.2.2.2.2.2.2.1
theorem LH.l2 {d xa xb xc : Nat} {C : Nat → Bool} {A0 A1 A2 : Nat → Option Nat} {W0 W1 W2 : Nat → Int} {R : Nat → Int} {rest af we cv : Nat → Int32} (h : LH d xa xb xc C A0 A1 A2 W0 W1 W2 R rest af we cv) : ∀ i a, i < 4 → A2 i = some a → a < 13 := h.2.2.2.2.2.2.2.2.2.2.2.2.1
theorem LH.b0 {d xa xb xc : Nat} {C : Nat → Bool} {A0 A1 A2 : Nat → Option Nat} {W0 W1 W2 : Nat → Int} {R : Nat → Int} {rest af we cv : Nat → Int32} (h : LH d xa xb xc C A0 A1 A2 W0 W1 W2 R rest af we cv) : ∀ i, i < 4 → 0 ≤ W0 i ∧ W0 i ≤ 200000 := h.2.2.2.2.2.2.2.2.2.2.2.2.2.1
theorem LH.b1 {d xa xb xc : Nat} {C : Nat → Bool} {A0 A1 A2 : Nat → Option Nat} {W0 W1 W2 : Nat → Int} {R : Nat → Int} {rest af we cv : Nat → Int32} (h : LH d xa xb xc C A0 A1 A2 W0 W1 W2 R rest af we cv) : ∀ i, i < 4 → 0 ≤ W1 i ∧ W1 i ≤ 200000 := h.2.2.2.2.2.2.2.2.2.2.2.2.2.2.1
theorem LH.b2 {d xa xb xc : Nat} {C : Nat → Bool} {A0 A1 A2 : Nat → Option Nat} {W0 W1 W2 : Nat → Int} {R : Nat → Int} {rest af we cv : Nat → Int32} (h : LH d xa xb xc C A0 A1 A2 W0 W1 W2 R rest af we cv) : ∀ i, i < 4 → 0 ≤ W2 i ∧ W2 i ≤ 200000 := h.2.2.2.2.2.2.2.2.2.2.2.2.2.2.2.1
theorem LH.co {d xa xb xc : Nat} {C : Nat → Bool} {A0 A1 A2 : Nat → Option Nat} {W0 W1 W2 : Nat → Int} {R : Nat → Int} {rest af we cv : Nat → Int32} (h : LH d xa xb xc C A0 A1 A2 W0 W1 W2 R rest af we cv) : ∀ k, k < 64 → cv k = bI (C k) := h.2.2.2.2.2.2.2.2.2.2.2.2.2.2.2.2.1
theorem LH.rs {d xa xb xc : Nat} {C : Nat → Bool} {A0 A1 A2 : Nat → Option Nat} {W0 W1 W2 : Nat → Int} {R : Nat → Int} {rest af we cv : Nat → Int32} (h : LH d xa xb xc C A0 A1 A2 W0 W1 W2 R rest af we cv) : ∀ i j l a b c, i < 4 → j < 4 → l < 4 → A0 i = some a → A1 j = some b → A2 l = some c → rest (2197 * (d + 1) + (169 * a + 13 * b + c)) = iI (R (169 * a + 13 * b + c)) := h.2.2.2.2.2.2.2.2.2.2.2.2.2.2.2.2.2.1
theorem LH.rb {d xa xb xc : Nat} {C : Nat → Bool} {A0 A1 A2 : Nat → Option Nat} {W0 W1 W2 : Nat → Int} {R : Nat → Int} {rest af we cv : Nat → Int32} (h : LH d xa xb xc C A0 A1 A2 W0 W1 W2 R rest af we cv) : ∀ t, R t = FAR ∨ (0 ≤ R t ∧ R t ≤ 4000000) := h.2.2.2.2.2.2.2.2.2.2.2.2.2.2.2.2.2.2
theorem enc_nn {c : Nat} (hc : c < 13) : ¬ enc (some c) < 0 := by
  show ¬ mI c < mI 0
  rw [mI_lt (by omega) (by omega)]; omega
theorem enc_nn' {c : Nat} (hc : c < 13) : 0 ≤ enc (some c) := by
  show mI 0 ≤ mI c
  rw [mI_le (by omega) (by omega)]; omega
theorem FAR_iI : (1000000000 : Int32) = iI FAR := by decide
theorem vl_bd {C : Nat → Bool} {A0 A1 A2 : Nat → Option Nat} {W0 W1 W2 R : Nat → Int} (b0 : ∀ i, i < 4 → 0 ≤ W0 i ∧ W0 i ≤ 200000) (b1 : ∀ i, i < 4 → 0 ≤ W1 i ∧ W1 i ≤ 200000) (b2 : ∀ i, i < 4 → 0 ≤ W2 i ∧ W2 i ≤ 200000) (rb : ∀ t, R t = FAR ∨ (0 ≤ R t ∧ R t ≤ 4000000)) {k : Nat} {v : Int} (hk : k < 64) (h : vl (st64 C A0 A1 A2) (w64 W0 W1 W2) R k = some v) : 0 ≤ v ∧ v ≤ 4600000 := by
  obtain ⟨t, h1, h2⟩ := ob h
  have x0 := b0 (k / 16) (by omega)
  have x1 := b1 (k / 4 % 4) (by omega)
  have x2 := b2 (k % 4) (by omega)
  by_cases e : R t = FAR
  · rw [if_pos e] at h2; cases h2
  · rw [if_neg e] at h2
    have := rb t
    have h3 : w64 W0 W1 W2 k + R t = v := by cases h2; rfl
    unfold w64 at h3
    omega
theorem lm_bd' {val : Nat → Option Int} {K : Nat} {v L : Int} (hb : ∀ k v, k < K → val k = some v → 0 ≤ v ∧ v ≤ L) (hL : L < FAR) (hm : LM val K v) : 0 ≤ v ∧ v ≤ FAR := by
  have hF : FAR = 1000000000 := rfl
  rcases hm with ⟨h1, _⟩ | ⟨k, hk, h2, _⟩
  · omega
  · have := hb k v hk h2; omega
theorem vl_0 {C : Nat → Bool} {A0 A1 A2 : Nat → Option Nat} {W R : Nat → Int} {i : Nat} (h : A0 i = none) (k : Nat) (h1 : 16 * i ≤ k) (h2 : k < 16 * i + 16) : vl (st64 C A0 A1 A2) W R k = none := by
  have e : k / 16 = i := by omega
  unfold vl st64
  rw [e, h]
  split <;> rfl
theorem vl_1 {C : Nat → Bool} {A0 A1 A2 : Nat → Option Nat} {W R : Nat → Int} {i j : Nat} (hj : j < 4) (h : A1 j = none) (k : Nat) (h1 : 16 * i + 4 * j ≤ k) (h2 : k < 16 * i + 4 * j + 4) : vl (st64 C A0 A1 A2) W R k = none := by
  have e : k / 4 % 4 = j := by omega
  unfold vl st64
  rw [e, h]
  split
  · cases A0 (k / 16) <;> rfl
  · rfl
theorem vl_at {C : Nat → Bool} {A0 A1 A2 : Nat → Option Nat} {W0 W1 W2 R : Nat → Int} {i j l : Nat} (hj : j < 4) (hl : l < 4) : vl (st64 C A0 A1 A2) (w64 W0 W1 W2) R (16 * i + 4 * j + l) = (if C (16 * i + 4 * j + l) = true then (A0 i).bind fun a => (A1 j).bind fun b => (A2 l).map fun c => 169 * a + 13 * b + c else none).bind fun t => if R t = FAR then none else some (W0 i + W1 j + W2 l + R t) := by
  have e0 : (16 * i + 4 * j + l) / 16 = i := by omega
  have e1 : (16 * i + 4 * j + l) / 4 % 4 = j := by omega
  have e2 : (16 * i + 4 * j + l) % 4 = l := by omega
  unfold vl st64 w64
  rw [e0, e1, e2]
theorem q_l120 {fu d xa xb xc i j a b : Nat} {C : Nat → Bool} {A0 A1 A2 : Nat → Option Nat} {W0 W1 W2 R : Nat → Int} {rest af we cv : Nat → Int32} {v0 : Int} (h : LH d xa xb xc C A0 A1 A2 W0 W1 W2 R rest af we cv) (hfu : 4 < fu) (hi : i < 4) (hj : j < 4) (hA : A0 i = some a) (hB : A1 j = some b) (hv : LM (vl (st64 C A0 A1 A2) (w64 W0 W1 W2) R) (16 * i + 4 * j) v0) :
    ∃ r, iter (f_Wm_lightest_l120 (mI xc) (mI i) (mI j) (mI (2197 * (d + 1) + 169 * a + 13 * b)) (iI (W0 i + W1 j)) rest af we cv) fu (iI v0, mI 0) = some r ∧ ∃ v, r.1 = iI v ∧ LM (vl (st64 C A0 A1 A2) (w64 W0 W1 W2) R) (16 * i + 4 * (j + 1)) v := by
  have ha := h.l0 i a hi hA
  have hb := h.l1 j b hj hB
  have hd := h.hd
  have hc := h.hc
  have hF : FAR = 1000000000 := rfl
  have x0 := h.b0 i hi
  have x1 := h.b1 j hj
  refine iter_for (N := 4) (fun l (s : Int32 × Int32) => s.2 = mI l ∧ ∃ v, s.1 = iI v ∧ LM (vl (st64 C A0 A1 A2) (w64 W0 W1 W2) R) (16 * i + 4 * j + l) v) (P := fun (r : Int32 × Int32) => ∃ v, r.1 = iI v ∧ LM (vl (st64 C A0 A1 A2) (w64 W0 W1 W2) R) (16 * i + 4 * (j + 1)) v) ?_ ?_ fu 0 (iI v0, mI 0) (by omega) (by omega) ⟨rfl, v0, rfl, hv⟩
  · rintro l ⟨s1, s2⟩ hl ⟨rfl, v, rfl, hm⟩
    have hvb := lm_bd' (L := 4600000) (fun k v hk hv => vl_bd h.b0 h.b1 h.b2 h.rb (by omega) hv) (by omega) hm
    have e1 : (104 + 4 * mI xc) + mI l = mI (104 + 4 * xc + l) := by
      show (mI 104 + mI 4 * mI xc) + mI l = _
      rw [mI_mul, mI_add, mI_add]
    have e2 : ((16 * mI i) + (4 * mI j)) + mI l = mI (16 * i + 4 * j + l) := by
      show ((mI 16 * mI i) + (mI 4 * mI j)) + mI l = _
      rw [mI_mul, mI_mul, mI_add, mI_add]
    unfold f_Wm_lightest_l120 f_Wm_lightest_b234 f_Wm_lightest_b232 f_Wm_lightest_b234
    dsimp only
    rw [if_neg (show ¬ (4 : Int32) ≤ mI l from fun q => absurd ((mI_le (a := 4) (by omega) (by omega)).1 q) (by omega)), e1, e2, gi_n (by omega) (by omega), sb, h.a2 l hl]
    have hat := @vl_at C A0 A1 A2 W0 W1 W2 R i j l hj hl
    rw [hA, hB, sb, sb] at hat
    have x2 := h.b2 l hl
    cases hC2 : A2 l with
    | none =>
      rw [if_pos (show enc none < 0 by decide), mI_1]
      rw [hC2] at hat
      refine ⟨_, rfl, rfl, v, rfl, lm_none ?_ hm⟩
      exact hat.trans (by split <;> rfl)
    | some c =>
      rw [hC2] at hat
      have hc3 := h.l2 l c hl hC2
      rw [if_neg (enc_nn hc3), gi_n (by omega) (by omega), sb, h.co _ (by omega)]
      by_cases hcv : C (16 * i + 4 * j + l) = true
      · rw [hcv, if_neg (show ¬ bI true = 0 by decide)]
        have e3 : mI (2197 * (d + 1) + 169 * a + 13 * b) + enc (some c) = mI (2197 * (d + 1) + (169 * a + 13 * b + c)) := by
          show mI _ + mI c = _
          rw [mI_add]; congr 1; omega
        rw [if_pos hcv] at hat
        have hat : vl (st64 C A0 A1 A2) (w64 W0 W1 W2) R (16 * i + 4 * j + l) = if R (169 * a + 13 * b + c) = FAR then none else some (W0 i + W1 j + W2 l + R (169 * a + 13 * b + c)) := hat
        rw [e3, gi_n (by omega) (by omega), sb, h.rs i j l a b c hi hj hl hA hB hC2, FAR_iI]
        have rb := h.rb (169 * a + 13 * b + c)
        generalize R (169 * a + 13 * b + c) = ρ at *
        by_cases hr : ρ = FAR
        · rw [if_pos (by rw [hr]), mI_1]
          rw [if_pos hr] at hat
          exact ⟨_, rfl, rfl, v, rfl, lm_none hat hm⟩
        · rw [if_neg (fun q => hr ((iI_inj (by omega) (by omega) (by omega) (by omega)).1 q)), gi_n (by omega) (by omega), sb, sb, h.w2 l hl, iI_add, iI_add, mI_1]
          rw [if_neg hr] at hat
          have := lm_some hat (by omega) hm
          by_cases hle : v ≤ W0 i + W1 j + W2 l + ρ
          · rw [if_pos ((iI_le (by omega) (by omega) (by omega) (by omega)).2 hle)]
            rw [if_pos hle] at this
            exact ⟨_, rfl, rfl, v, rfl, this⟩
          · rw [if_neg (fun q => hle ((iI_le (by omega) (by omega) (by omega) (by omega)).1 q))]
            rw [if_neg hle] at this
            exact ⟨_, rfl, rfl, _, rfl, this⟩
      · rw [if_neg hcv] at hat
        have : C (16 * i + 4 * j + l) = false := by simpa using hcv
        rw [this, if_pos (show bI false = 0 from rfl), mI_1]
        exact ⟨_, rfl, rfl, v, rfl, lm_none hat hm⟩
  · rintro ⟨s1, s2⟩ ⟨rfl, v, rfl, hm⟩
    refine ⟨(iI v, mI 4), ?_, v, rfl, ?_⟩
    · unfold f_Wm_lightest_l120
      dsimp only
      rw [if_pos (show (4 : Int32) ≤ mI 4 from (mI_le (a := 4) (by omega) (by omega)).2 (by omega))]
    · rw [show 16 * i + 4 * (j + 1) = 16 * i + 4 * j + 4 by omega]; exact hm
