/-! the reference's weigh, and the first triple of shifts of least weight -/
theorem p_weigh {d u k : Nat} {C : Nat → Bool} {A0 A1 A2 : Nat → Option Nat} {W0 W1 W2 R : Nat → Int} {rest af we cv : Nat → Int32} (h : LH d (u / 169) (u / 13 % 13) (u % 13) C A0 A1 A2 W0 W1 W2 R rest af we cv) (hu : u < 2197) (hk : k < 64) :
    f_Wm_weigh (mI d) (mI u) (mI k) rest af we cv = some (iI ((vl (st64 C A0 A1 A2) (w64 W0 W1 W2) R k).getD FAR)) := by
  have hd := h.hd
  have hF : FAR = 1000000000 := rfl
  have e0 : 4 * (mI u / 169) + mI k / 16 = mI (4 * (u / 169) + k / 16) := by
    show mI 4 * (mI u / mI 169) + mI k / mI 16 = _
    rw [mI_div (by omega) (by omega), mI_div (by omega) (by omega), mI_mul, mI_add]
  have e1 : (52 + (4 * ((mI u / 13) - (mI u / 13) / 13 * 13))) + ((mI k / 4) - (mI k / 4) / 4 * 4) = mI (52 + 4 * (u / 13 % 13) + k / 4 % 4) := by
    show (mI 52 + (mI 4 * ((mI u / mI 13) - (mI u / mI 13) / mI 13 * mI 13))) + ((mI k / mI 4) - (mI k / mI 4) / mI 4 * mI 4) = _
    rw [mI_div (by omega) (by omega), mI_div (by omega) (by omega), mI_div (by omega) (by omega), mI_div (by omega) (by omega), mI_mul, mI_mul, mI_sub (by omega), mI_sub (by omega), mI_mul, mI_add, mI_add]
    congr 1
    omega
  have e2 : (104 + (4 * (mI u - mI u / 13 * 13))) + (mI k - mI k / 4 * 4) = mI (104 + 4 * (u % 13) + k % 4) := by
    show (mI 104 + (mI 4 * (mI u - mI u / mI 13 * mI 13))) + (mI k - mI k / mI 4 * mI 4) = _
    rw [mI_div (by omega) (by omega), mI_div (by omega) (by omega), mI_mul, mI_mul, mI_sub (by omega), mI_sub (by omega), mI_mul, mI_add, mI_add]
    congr 1
    omega
  have hi : k / 16 < 4 := by omega
  have hj : k / 4 % 4 < 4 := by omega
  have hl : k % 4 < 4 := by omega
  have g0 : gi 156 af (mI (4 * (u / 169) + k / 16)) = some (enc (A0 (k / 16))) := by rw [gi_n (by omega) (by omega), h.a0 _ hi]
  have g1 : gi 156 af (mI (52 + 4 * (u / 13 % 13) + k / 4 % 4)) = some (enc (A1 (k / 4 % 4))) := by rw [gi_n (by omega) (by omega), h.a1 _ hj]
  have g2 : gi 156 af (mI (104 + 4 * (u % 13) + k % 4)) = some (enc (A2 (k % 4))) := by rw [gi_n (by omega) (by omega), h.a2 _ hl]
  have g3 : gi 156 we (mI (4 * (u / 169) + k / 16)) = some (iI (W0 (k / 16))) := by rw [gi_n (by omega) (by omega), h.w0 _ hi]
  have g4 : gi 156 we (mI (52 + 4 * (u / 13 % 13) + k / 4 % 4)) = some (iI (W1 (k / 4 % 4))) := by rw [gi_n (by omega) (by omega), h.w1 _ hj]
  have g5 : gi 156 we (mI (104 + 4 * (u % 13) + k % 4)) = some (iI (W2 (k % 4))) := by rw [gi_n (by omega) (by omega), h.w2 _ hl]
  have g6 : gi 64 cv (mI k) = some (bI (C k)) := by rw [gi_n hk (by omega), h.co k hk]
  unfold f_Wm_weigh
  rw [e0, e1, e2]
  simp only [g0, g1, g2, g3, g4, g5, g6, sb]
  unfold vl st64 w64
  have x0 := h.b0 _ hi
  have x1 := h.b1 _ hj
  have x2 := h.b2 _ hl
  cases hC : C k with
  | false =>
    rw [if_pos (show bI false = 0 from rfl), if_neg (by decide), FAR_iI]; rfl
  | true =>
    rw [if_neg (show ¬ bI true = 0 by decide), if_pos rfl]
    cases hA : A0 (k / 16) with
    | none => rw [if_pos (show enc none < 0 by decide), FAR_iI]; rfl
    | some a =>
      have ha := h.l0 _ a hi hA
      rw [if_neg (enc_nn ha), sb]
      cases hB : A1 (k / 4 % 4) with
      | none => rw [if_pos (show enc none < 0 by decide), FAR_iI]; rfl
      | some b =>
        have hb := h.l1 _ b hj hB
        rw [if_neg (enc_nn hb), sb]
        cases hE : A2 (k % 4) with
        | none => rw [if_neg (show ¬ 0 ≤ enc none by decide), FAR_iI]; rfl
        | some c =>
          have hc := h.l2 _ c hl hE
          have e3 : (((2197 * (mI d + 1)) + (169 * enc (some a))) + (13 * enc (some b))) + enc (some c) = mI (2197 * (d + 1) + (169 * a + 13 * b + c)) := by
            show (((mI 2197 * (mI d + mI 1)) + (mI 169 * mI a)) + (mI 13 * mI b)) + mI c = _
            rw [mI_add, mI_mul, mI_mul, mI_mul, mI_add, mI_add, mI_add]
            congr 1
            omega
          rw [if_pos (enc_nn' hc), e3, gi_n (by omega) (by omega), sb, h.rs _ _ _ a b c hi hj hl hA hB hE, FAR_iI]
          show _ = some (iI (Option.getD (if R (169 * a + 13 * b + c) = FAR then none else some (W0 (k / 16) + W1 (k / 4 % 4) + W2 (k % 4) + R (169 * a + 13 * b + c))) FAR))
          have rb := h.rb (169 * a + 13 * b + c)
          generalize R (169 * a + 13 * b + c) = ρ at *
          by_cases hr : ρ = FAR
          · rw [if_pos (by rw [hr]), if_pos hr]; rfl
          · rw [if_neg (fun q => hr ((iI_inj (by omega) (by omega) (by omega) (by omega)).1 q)), if_neg hr, iI_add, iI_add, iI_add]; rfl
theorem least_ex {P : Nat → Prop} : ∀ {N : Nat}, (∃ k, k < N ∧ P k) → ∃ k, k < N ∧ P k ∧ ∀ k', k' < k → ¬ P k' := by
  intro N
  induction N with
  | zero => rintro ⟨k, h, _⟩; omega
  | succ N ih =>
    rintro ⟨k, h1, h2⟩
    by_cases h : ∃ k, k < N ∧ P k
    · obtain ⟨k, a, b, c⟩ := ih h
      exact ⟨k, by omega, b, c⟩
    · have e : k = N := by
        by_cases q : k = N
        · exact q
        · exact absurd ⟨k, by omega, h2⟩ h
      subst e
      exact ⟨k, h1, h2, fun k' hk' hp => h ⟨k', hk', hp⟩⟩
/-- the loop that takes the first triple of least weight -/
theorem q_l89 {fu d u : Nat} {C : Nat → Bool} {A0 A1 A2 : Nat → Option Nat} {W0 W1 W2 R : Nat → Int} {rest af we cv : Nat → Int32} {V : Int} (hfu : 64 < fu) (h : LH d (u / 169) (u / 13 % 13) (u % 13) C A0 A1 A2 W0 W1 W2 R rest af we cv) (hu : u < 2197) (hV : V ≠ FAR) (hV0 : 0 ≤ V ∧ V ≤ 4000000) (hr : rest (2197 * d + u) = iI V) (hex : ∃ k, k < 64 ∧ vl (st64 C A0 A1 A2) (w64 W0 W1 W2) R k = some V) :
    ∃ k, iter (f_Wm_find_l89 (mI u) (mI d) rest af we cv) fu (mI 0) = some (mI k) ∧ k < 64 ∧ vl (st64 C A0 A1 A2) (w64 W0 W1 W2) R k = some V ∧ ∀ k', k' < k → vl (st64 C A0 A1 A2) (w64 W0 W1 W2) R k' ≠ some V := by
  have hd := h.hd
  have hF : FAR = 1000000000 := rfl
  obtain ⟨k, h1, h2, h3⟩ := least_ex hex
  have eu : (2197 * mI d) + mI u = mI (2197 * d + u) := by
    show (mI 2197 * mI d) + mI u = _
    rw [mI_mul, mI_add]
  obtain ⟨r, g1, g2⟩ := iter_for (N := k) (b := f_Wm_find_l89 (mI u) (mI d) rest af we cv) (fun j (s : Int32) => s = mI j) (P := fun (r : Int32) => r = mI k)
    (by
      rintro j _ hj rfl
      unfold f_Wm_find_l89
      rw [p_weigh h hu (by omega), sb, eu, gi_n (by omega) (by omega), sb, hr, mI_1]
      refine ⟨mI (j + 1), ?_, rfl⟩
      rw [if_neg]
      intro q
      cases hv : vl (st64 C A0 A1 A2) (w64 W0 W1 W2) R j with
      | none =>
        rw [hv] at q
        exact hV ((iI_inj (a := FAR) (by omega) (by omega) (by omega) (by omega)).1 q).symm
      | some w =>
        rw [hv] at q
        have := vl_bd h.b0 h.b1 h.b2 h.rb (by omega) hv
        have := (iI_inj (a := w) (by omega) (by omega) (by omega) (by omega)).1 q
        rw [this] at hv
        exact h3 j hj hv)
    (by
      rintro _ rfl
      refine ⟨mI k, ?_, rfl⟩
      unfold f_Wm_find_l89
      rw [p_weigh h hu h1, sb, eu, gi_n (by omega) (by omega), sb, hr, h2]
      exact if_pos rfl)
    fu 0 (mI 0) (by omega) (by omega) rfl
  exact ⟨k, by rw [g1, g2], h1, h2, h3⟩
