/-! the reference's lightest, the outer loops -/
theorem q_l37 {fu d xa xb xc i a : Nat} {C : Nat → Bool} {A0 A1 A2 : Nat → Option Nat} {W0 W1 W2 R : Nat → Int} {rest af we cv : Nat → Int32} {v0 : Int} (h : LH d xa xb xc C A0 A1 A2 W0 W1 W2 R rest af we cv) (hfu : 4 < fu) (hi : i < 4) (hA : A0 i = some a) (hv : LM (vl (st64 C A0 A1 A2) (w64 W0 W1 W2) R) (16 * i) v0) :
    ∃ r, iter (f_Wm_lightest_l37 fu (mI d) (mI xa) (mI xb) (mI xc) (mI i) (enc (some a)) rest af we cv) fu (iI v0, mI 0) = some r ∧ ∃ v, r.1 = iI v ∧ LM (vl (st64 C A0 A1 A2) (w64 W0 W1 W2) R) (16 * (i + 1)) v := by
  have ha := h.l0 i a hi hA
  have hd := h.hd
  have hxa := h.ha
  have hxb := h.hb
  refine iter_for (N := 4) (fun j (s : Int32 × Int32) => s.2 = mI j ∧ ∃ v, s.1 = iI v ∧ LM (vl (st64 C A0 A1 A2) (w64 W0 W1 W2) R) (16 * i + 4 * j) v) (P := fun (r : Int32 × Int32) => ∃ v, r.1 = iI v ∧ LM (vl (st64 C A0 A1 A2) (w64 W0 W1 W2) R) (16 * (i + 1)) v) ?_ ?_ fu 0 (iI v0, mI 0) (by omega) (by omega) ⟨rfl, v0, rfl, hv⟩
  · rintro j ⟨s1, s2⟩ hj ⟨rfl, v, rfl, hm⟩
    have e1 : (52 + 4 * mI xb) + mI j = mI (52 + 4 * xb + j) := by
      show (mI 52 + mI 4 * mI xb) + mI j = _
      rw [mI_mul, mI_add, mI_add]
    have e2 : 4 * mI xa + mI i = mI (4 * xa + i) := by
      show mI 4 * mI xa + mI i = _
      rw [mI_mul, mI_add]
    unfold f_Wm_lightest_l37 f_Wm_lightest_b240
    dsimp only
    rw [if_neg (show ¬ (4 : Int32) ≤ mI j from fun q => absurd ((mI_le (a := 4) (by omega) (by omega)).1 q) (by omega)), e1, e2, gi_n (by omega) (by omega), sb, h.a1 j hj]
    cases hB : A1 j with
    | none =>
      rw [if_neg (show ¬ 0 ≤ enc none by decide), mI_1]
      refine ⟨_, rfl, rfl, v, rfl, ?_⟩
      exact lm_skip 4 (fun k h1 h2 => vl_1 hj hB k h1 h2) hm
    | some b =>
      have hb := h.l1 j b hj hB
      have e3 : ((2197 * (mI d + 1)) + (169 * enc (some a))) + (13 * enc (some b)) = mI (2197 * (d + 1) + 169 * a + 13 * b) := by
        show ((mI 2197 * (mI d + mI 1)) + (mI 169 * mI a)) + (mI 13 * mI b) = _
        rw [mI_add, mI_mul, mI_mul, mI_mul, mI_add, mI_add]
      rw [if_pos (enc_nn' hb), gi_n (by omega) (by omega), sb, gi_n (by omega) (by omega), sb, h.w0 i hi, h.w1 j hj, iI_add, e3]
      obtain ⟨r, h1, v', h2, h3⟩ := q_l120 h hfu hi hj hA hB hm
      show ∃ a', ((iter (f_Wm_lightest_l120 (mI xc) (mI i) (mI j) (mI (2197 * (d + 1) + 169 * a + 13 * b)) (iI (W0 i + W1 j)) rest af we cv) fu (iI v, mI 0)).bind _) = _ ∧ _
      rw [h1, sb, mI_1, h2]
      exact ⟨_, rfl, rfl, v', rfl, h3⟩
  · rintro ⟨s1, s2⟩ ⟨rfl, v, rfl, hm⟩
    refine ⟨(iI v, mI 4), ?_, v, rfl, ?_⟩
    · unfold f_Wm_lightest_l37
      dsimp only
      rw [if_pos (show (4 : Int32) ≤ mI 4 from (mI_le (a := 4) (by omega) (by omega)).2 (by omega))]
    · rw [show 16 * (i + 1) = 16 * i + 4 * 4 by omega]; exact hm
theorem p_lightest {fu d xa xb xc : Nat} {C : Nat → Bool} {A0 A1 A2 : Nat → Option Nat} {W0 W1 W2 R : Nat → Int} {rest af we cv : Nat → Int32} (h : LH d xa xb xc C A0 A1 A2 W0 W1 W2 R rest af we cv) (hfu : 4 < fu) :
    ∃ v, f_Wm_lightest fu (mI d) (mI xa) (mI xb) (mI xc) rest af we cv = some (iI v) ∧ LM (vl (st64 C A0 A1 A2) (w64 W0 W1 W2) R) 64 v := by
  have hxa := h.ha
  obtain ⟨r, h1, v, h2, h3⟩ := iter_for (N := 4) (b := f_Wm_lightest_l7 fu (mI d) (mI xa) (mI xb) (mI xc) rest af we cv) (fun i (s : Int32 × Int32) => s.2 = mI i ∧ ∃ v, s.1 = iI v ∧ LM (vl (st64 C A0 A1 A2) (w64 W0 W1 W2) R) (16 * i) v) (P := fun (r : Int32 × Int32) => ∃ v, r.1 = iI v ∧ LM (vl (st64 C A0 A1 A2) (w64 W0 W1 W2) R) 64 v)
    (by
      rintro i ⟨s1, s2⟩ hi ⟨rfl, v, rfl, hm⟩
      have e2 : 4 * mI xa + mI i = mI (4 * xa + i) := by
        show mI 4 * mI xa + mI i = _
        rw [mI_mul, mI_add]
      unfold f_Wm_lightest_l7 f_Wm_lightest_b246
      dsimp only
      rw [if_neg (show ¬ (4 : Int32) ≤ mI i from fun q => absurd ((mI_le (a := 4) (by omega) (by omega)).1 q) (by omega)), e2, gi_n (by omega) (by omega), sb, h.a0 i hi]
      cases hA : A0 i with
      | none =>
        rw [if_neg (show ¬ 0 ≤ enc none by decide), mI_1]
        refine ⟨_, rfl, rfl, v, rfl, ?_⟩
        exact lm_skip 16 (fun k h1 h2 => vl_0 hA k h1 h2) hm
      | some a =>
        rw [if_pos (enc_nn' (h.l0 i a hi hA))]
        obtain ⟨r, h1, v', h2, h3⟩ := q_l37 h hfu hi hA hm
        show ∃ a', ((iter (f_Wm_lightest_l37 fu (mI d) (mI xa) (mI xb) (mI xc) (mI i) (enc (some a)) rest af we cv) fu (iI v, mI 0)).bind _) = _ ∧ _
        rw [h1, sb, mI_1, h2]
        exact ⟨_, rfl, rfl, v', rfl, h3⟩)
    (by
      rintro ⟨s1, s2⟩ ⟨rfl, v, rfl, hm⟩
      refine ⟨(iI v, mI 4), ?_, v, rfl, hm⟩
      unfold f_Wm_lightest_l7
      dsimp only
      rw [if_pos (show (4 : Int32) ≤ mI 4 from (mI_le (a := 4) (by omega) (by omega)).2 (by omega))])
    fu 0 (iI FAR, mI 0) (by omega) (by omega) ⟨rfl, FAR, rfl, .inl ⟨rfl, fun k hk => by omega⟩⟩
  refine ⟨v, ?_, h3⟩
  unfold f_Wm_lightest
  rw [FAR_iI]
  show (iter _ fu (iI FAR, mI 0)).bind _ = _
  rw [h1, sb, h2]
