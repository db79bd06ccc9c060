set_option maxHeartbeats 8000000 in
set_option maxRecDepth 100000 in
theorem T_La_law_l23 {p : Program} {l : Launch} {e : Env} {s : State} {m : MethodId} {args : Array Value} {below : List Frame} {meth : Method} {c : Code} {Q : State → Prop} {D : va_G} {cI cJ cZ cN : ClassId} {A : Nat → Prop} {b L : Nat} {xs : Nat → Int32} (C : CxL p s m args c code 7 "WardRosterLaw" D cI cJ cZ cN) (hA : ∀ q, s.heap.size ≤ q → A q) (hst : l.stackTraces = false) (hZ : ZZ A s s.heap) (hT : KT s) (hC : KN s) (hX : va_X b L xs s s.heap) (hbl : b < s.heap.size) (hbA : ¬ A b) {fu kc ks : Nat} (hr0 : kc ≤ 601024 ∧ ks ≤ 7293034) (hr1 : kc + 1 ≤ 601024 ∧ ks + 6 ≤ 7293034) {ra1 ra1_ward ra1_ward_nurses ra1_ward_n0 ra1_ward_n0_shiftCosts ra1_ward_n0_pairCosts ra1_ward_n0_fixedShifts ra1_ward_n1 ra1_ward_n1_shiftCosts ra1_ward_n1_pairCosts ra1_ward_n1_fixedShifts ra1_ward_n2 ra1_ward_n2_shiftCosts ra1_ward_n2_pairCosts ra1_ward_n2_fixedShifts ra1_ward_needed ra1_walk ra1_walk_keys ra1_walk_nextKeys ra1_walk_ways ra1_walk_nextWays ra1_search ra1_search_statesAfter ra1_search_steps ra1_search_keys ra1_search_nextKeys ra1_pricing ra1_pricing_prices ra1_noPrices ra2 ra2_forbidden ra2_longest ra2_shiftBefore ra2_workedBefore ra2_needs ra2_costs ra2_pairs ra2_fixed ra2_prices ra2_counts ra2_best ra2_plan ra2_rest ra2_after ra2_weight ra2_covers ra2_found ra3 : Nat} {x4 : Int32} {gx : GX} {gm : GM} {q3 : Nat → Int64} {ls : Array Slot} {H : Heap} {locs : List Loc} (hP : va_P D classes (wAll cI cJ cZ cN ra1 ra1_ward ra1_ward_nurses ra1_ward_n0 ra1_ward_n0_shiftCosts ra1_ward_n0_pairCosts ra1_ward_n0_fixedShifts ra1_ward_n1 ra1_ward_n1_shiftCosts ra1_ward_n1_pairCosts ra1_ward_n1_fixedShifts ra1_ward_n2 ra1_ward_n2_shiftCosts ra1_ward_n2_pairCosts ra1_ward_n2_fixedShifts ra1_ward_needed ra1_walk ra1_walk_keys ra1_walk_nextKeys ra1_walk_ways ra1_walk_nextWays ra1_search ra1_search_statesAfter ra1_search_steps ra1_search_keys ra1_search_nextKeys ra1_pricing ra1_pricing_prices ra1_noPrices ra2 ra2_forbidden ra2_longest ra2_shiftBefore ra2_workedBefore ra2_needs ra2_costs ra2_pairs ra2_fixed ra2_prices ra2_counts ra2_best ra2_plan ra2_rest ra2_after ra2_weight ra2_covers ra2_found ra3 gx gm q3) H) (hD : va_D A (wAll cI cJ cZ cN ra1 ra1_ward ra1_ward_nurses ra1_ward_n0 ra1_ward_n0_shiftCosts ra1_ward_n0_pairCosts ra1_ward_n0_fixedShifts ra1_ward_n1 ra1_ward_n1_shiftCosts ra1_ward_n1_pairCosts ra1_ward_n1_fixedShifts ra1_ward_n2 ra1_ward_n2_shiftCosts ra1_ward_n2_pairCosts ra1_ward_n2_fixedShifts ra1_ward_needed ra1_walk ra1_walk_keys ra1_walk_nextKeys ra1_walk_ways ra1_walk_nextWays ra1_search ra1_search_statesAfter ra1_search_steps ra1_search_keys ra1_search_nextKeys ra1_pricing ra1_pricing_prices ra1_noPrices ra2 ra2_forbidden ra2_longest ra2_shiftBefore ra2_workedBefore ra2_needs ra2_costs ra2_pairs ra2_fixed ra2_prices ra2_counts ra2_best ra2_plan ra2_rest ra2_after ra2_weight ra2_covers ra2_found ra3 gx gm q3)) (hS : va_S A s.heap H locs) (hl : lv_has ls 7 [(0, .ref b), (1, .ref ra1), (2, .ref ra2), (3, .ref ra3), (4, .int x4)]) {q : (Int32 × GX × GM × (Nat → Int64)) ⊕ (Int32 × GX × GM × (Nat → Int64))} (hf : f_La_law_b fu L xs x4 gx gm q3 = some q) (Kc : ∀ v : (Int32 × GX × GM × (Nat → Int64)), q = .inl v → ∀ {ls : Array Slot} {H : Heap} {locs : List Loc} {ra1_walk_keys ra1_walk_nextKeys ra1_walk_ways ra1_walk_nextWays ra1_search_keys ra1_search_nextKeys : Nat}, va_P D classes (wAll cI cJ cZ cN ra1 ra1_ward ra1_ward_nurses ra1_ward_n0 ra1_ward_n0_shiftCosts ra1_ward_n0_pairCosts ra1_ward_n0_fixedShifts ra1_ward_n1 ra1_ward_n1_shiftCosts ra1_ward_n1_pairCosts ra1_ward_n1_fixedShifts ra1_ward_n2 ra1_ward_n2_shiftCosts ra1_ward_n2_pairCosts ra1_ward_n2_fixedShifts ra1_ward_needed ra1_walk ra1_walk_keys ra1_walk_nextKeys ra1_walk_ways ra1_walk_nextWays ra1_search ra1_search_statesAfter ra1_search_steps ra1_search_keys ra1_search_nextKeys ra1_pricing ra1_pricing_prices ra1_noPrices ra2 ra2_forbidden ra2_longest ra2_shiftBefore ra2_workedBefore ra2_needs ra2_costs ra2_pairs ra2_fixed ra2_prices ra2_counts ra2_best ra2_plan ra2_rest ra2_after ra2_weight ra2_covers ra2_found ra3 v.2.1 v.2.2.1 v.2.2.2) H → va_D A (wAll cI cJ cZ cN ra1 ra1_ward ra1_ward_nurses ra1_ward_n0 ra1_ward_n0_shiftCosts ra1_ward_n0_pairCosts ra1_ward_n0_fixedShifts ra1_ward_n1 ra1_ward_n1_shiftCosts ra1_ward_n1_pairCosts ra1_ward_n1_fixedShifts ra1_ward_n2 ra1_ward_n2_shiftCosts ra1_ward_n2_pairCosts ra1_ward_n2_fixedShifts ra1_ward_needed ra1_walk ra1_walk_keys ra1_walk_nextKeys ra1_walk_ways ra1_walk_nextWays ra1_search ra1_search_statesAfter ra1_search_steps ra1_search_keys ra1_search_nextKeys ra1_pricing ra1_pricing_prices ra1_noPrices ra2 ra2_forbidden ra2_longest ra2_shiftBefore ra2_workedBefore ra2_needs ra2_costs ra2_pairs ra2_fixed ra2_prices ra2_counts ra2_best ra2_plan ra2_rest ra2_after ra2_weight ra2_covers ra2_found ra3 v.2.1 v.2.2.1 v.2.2.2) → va_S A s.heap H locs → lv_has ls 7 [(0, .ref b), (1, .ref ra1), (2, .ref ra2), (3, .ref ra3), (4, .int v.1)] → W p l e room_1 s m args below meth c H locs (kc + 1) (ks + 6) Q (F0 m 23 ls [])) (Ke : ∀ v : (Int32 × GX × GM × (Nat → Int64)), q = .inr v → ∀ {ls : Array Slot} {H : Heap} {locs : List Loc} {ra1_walk_keys ra1_walk_nextKeys ra1_walk_ways ra1_walk_nextWays ra1_search_keys ra1_search_nextKeys : Nat}, va_P D classes (wAll cI cJ cZ cN ra1 ra1_ward ra1_ward_nurses ra1_ward_n0 ra1_ward_n0_shiftCosts ra1_ward_n0_pairCosts ra1_ward_n0_fixedShifts ra1_ward_n1 ra1_ward_n1_shiftCosts ra1_ward_n1_pairCosts ra1_ward_n1_fixedShifts ra1_ward_n2 ra1_ward_n2_shiftCosts ra1_ward_n2_pairCosts ra1_ward_n2_fixedShifts ra1_ward_needed ra1_walk ra1_walk_keys ra1_walk_nextKeys ra1_walk_ways ra1_walk_nextWays ra1_search ra1_search_statesAfter ra1_search_steps ra1_search_keys ra1_search_nextKeys ra1_pricing ra1_pricing_prices ra1_noPrices ra2 ra2_forbidden ra2_longest ra2_shiftBefore ra2_workedBefore ra2_needs ra2_costs ra2_pairs ra2_fixed ra2_prices ra2_counts ra2_best ra2_plan ra2_rest ra2_after ra2_weight ra2_covers ra2_found ra3 v.2.1 v.2.2.1 v.2.2.2) H → va_D A (wAll cI cJ cZ cN ra1 ra1_ward ra1_ward_nurses ra1_ward_n0 ra1_ward_n0_shiftCosts ra1_ward_n0_pairCosts ra1_ward_n0_fixedShifts ra1_ward_n1 ra1_ward_n1_shiftCosts ra1_ward_n1_pairCosts ra1_ward_n1_fixedShifts ra1_ward_n2 ra1_ward_n2_shiftCosts ra1_ward_n2_pairCosts ra1_ward_n2_fixedShifts ra1_ward_needed ra1_walk ra1_walk_keys ra1_walk_nextKeys ra1_walk_ways ra1_walk_nextWays ra1_search ra1_search_statesAfter ra1_search_steps ra1_search_keys ra1_search_nextKeys ra1_pricing ra1_pricing_prices ra1_noPrices ra2 ra2_forbidden ra2_longest ra2_shiftBefore ra2_workedBefore ra2_needs ra2_costs ra2_pairs ra2_fixed ra2_prices ra2_counts ra2_best ra2_plan ra2_rest ra2_after ra2_weight ra2_covers ra2_found ra3 v.2.1 v.2.2.1 v.2.2.2) → va_S A s.heap H locs → lv_has ls 7 [] → W p l e room_1 s m args below meth c H locs (kc + 1) (ks + 6) Q (F0 m 1146 ls [])) : W p l e room_1 s m args below meth c H locs kc ks Q (F0 m 23 ls []) := by
  obtain ⟨hx, hb, hml, hown, hts, hK, hN⟩ := id C
  have hf : (if ((Int32.ofNat L) - 5) < x4 then some (.inr (x4, gx, gm, q3)) else (gi L xs x4).bind fun v35 => if (v35 &&& 31) = 0 then f_La_c0 fu L xs x4 gx gm q3 else if (v35 &&& 31) = 1 then f_La_c1 fu L xs x4 gx gm q3 else if (v35 &&& 31) = 2 then f_La_c2 fu L xs x4 gx gm q3 else if (v35 &&& 31) = 3 then f_La_c3 fu L xs x4 gx gm q3 else if (v35 &&& 31) = 4 then f_La_c4 fu L xs x4 gx gm q3 else if (v35 &&& 31) = 5 then f_La_c5 fu L xs x4 gx gm q3 else if (v35 &&& 31) = 6 then f_La_c6 fu L xs x4 gx gm q3 else if (v35 &&& 31) = 7 then f_La_c7 fu L xs x4 gx gm q3 else if (v35 &&& 31) = 8 then f_La_c8 fu L xs x4 gx gm q3 else if (v35 &&& 31) = 9 then f_La_c9 fu L xs x4 gx gm q3 else if (v35 &&& 31) = 10 then f_La_c10 fu L xs x4 gx gm q3 else if (v35 &&& 31) = 11 then f_La_c11 fu L xs x4 gx gm q3 else if (v35 &&& 31) = 12 then f_La_c12 fu L xs x4 gx gm q3 else if (v35 &&& 31) = 13 then f_La_c13 fu L xs x4 gx gm q3 else if (v35 &&& 31) = 14 then f_La_c14 fu L xs x4 gx gm q3 else if (v35 &&& 31) = 15 then f_La_c15 fu L xs x4 gx gm q3 else if (v35 &&& 31) = 16 then f_La_c16 fu L xs x4 gx gm q3 else if (v35 &&& 31) = 17 then f_La_c17 fu L xs x4 gx gm q3 else if (v35 &&& 31) = 18 then f_La_c18 fu L xs x4 gx gm q3 else some (.inl ((x4 + 5), gx, gm, q3)) : Option ((Int32 × GX × GM × (Nat → Int64)) ⊕ (Int32 × GX × GM × (Nat → Int64)))) = some q := hf
  refine lv_iload hx hb d_La_law_23 (lv_at hl 4 rfl) ?_
  refine lv_aload_n hx hb d_La_law_25 rfl (lv_at hl 0 rfl) ?_
  refine va_slen hx hb hX hbl hbA hS d_La_law_26 ?_
  refine lv_iconst (v := 5) hx hb d_La_law_27 (by decide) ?_
  refine lv_isub hx hb d_La_law_28 ?_
  refine lv_icmp_gt (tgt := 1146) hx hb d_La_law_29 (by decide) (fun hc0 => ?_) (fun hc0 => ?_)
  · have hf := if_t hc0 hf
    cases hf
    refine W.widen (k := kc + 1) (n := ks + 6) (by omega) (by omega) ?_
    exact Ke _ rfl hP hD hS (lv_sub hl [] rfl)
  · have hf := if_f hc0 hf
    refine lv_aload_n hx hb d_La_law_32 rfl (lv_at hl 0 rfl) ?_
    refine lv_iload hx hb d_La_law_33 (lv_at hl 4 rfl) ?_
    obtain ⟨v35, hv35, hf⟩ := ob hf
    refine ga_s hx hb hX hbl hbA hS hv35 d_La_law_35 ?_
    refine lv_bipush (v := 31) hx hb d_La_law_36 (by decide) ?_
    refine lv_iand hx hb d_La_law_38 ?_
    by_cases hs0 : (v35 &&& 31) = 0
    · have hf := if_t hs0 hf
      refine W.eq (g2 := F0 m 39 ls [.int 0]) (by rw [hs0]) ?_
      refine lv_tableIn (x := 0) (off := 89) (tgt := 128) hx hb d_La_law_39 (by decide) (by decide) rfl (by decide) ?_
      unfold f_La_c0 at hf
      exact S_La_law_0 (fu := fu) C hA hst hZ hT hC hX hbl hbA hr0 hr1 hP hD hS hl hf Kc
    have hf := if_f hs0 hf
    by_cases hs1 : (v35 &&& 31) = 1
    · have hf := if_t hs1 hf
      refine W.eq (g2 := F0 m 39 ls [.int 1]) (by rw [hs1]) ?_
      refine lv_tableIn (x := 1) (off := 125) (tgt := 164) hx hb d_La_law_39 (by decide) (by decide) rfl (by decide) ?_
      unfold f_La_c1 at hf
      exact S_La_law_1 (fu := fu) C hA hst hZ hT hC hX hbl hbA hr0 hr1 hP hD hS hl hf Kc
    have hf := if_f hs1 hf
    by_cases hs2 : (v35 &&& 31) = 2
    · have hf := if_t hs2 hf
      refine W.eq (g2 := F0 m 39 ls [.int 2]) (by rw [hs2]) ?_
      refine lv_tableIn (x := 2) (off := 185) (tgt := 224) hx hb d_La_law_39 (by decide) (by decide) rfl (by decide) ?_
      unfold f_La_c2 at hf
      exact S_La_law_2 (fu := fu) C hA hst hZ hT hC hX hbl hbA hr0 hr1 hP hD hS hl hf Kc
    have hf := if_f hs2 hf
    by_cases hs3 : (v35 &&& 31) = 3
    · have hf := if_t hs3 hf
      refine W.eq (g2 := F0 m 39 ls [.int 3]) (by rw [hs3]) ?_
      refine lv_tableIn (x := 3) (off := 245) (tgt := 284) hx hb d_La_law_39 (by decide) (by decide) rfl (by decide) ?_
      unfold f_La_c3 at hf
      exact S_La_law_3 (fu := fu) C hA hst hZ hT hC hX hbl hbA hr0 hr1 hP hD hS hl hf Kc
    have hf := if_f hs3 hf
    by_cases hs4 : (v35 &&& 31) = 4
    · have hf := if_t hs4 hf
      refine W.eq (g2 := F0 m 39 ls [.int 4]) (by rw [hs4]) ?_
      refine lv_tableIn (x := 4) (off := 325) (tgt := 364) hx hb d_La_law_39 (by decide) (by decide) rfl (by decide) ?_
      unfold f_La_c4 at hf
      exact S_La_law_4 (fu := fu) C hA hst hZ hT hC hX hbl hbA hr0 hr1 hP hD hS hl hf Kc
    have hf := if_f hs4 hf
    by_cases hs5 : (v35 &&& 31) = 5
    · have hf := if_t hs5 hf
      refine W.eq (g2 := F0 m 39 ls [.int 5]) (by rw [hs5]) ?_
      refine lv_tableIn (x := 5) (off := 417) (tgt := 456) hx hb d_La_law_39 (by decide) (by decide) rfl (by decide) ?_
      unfold f_La_c5 at hf
      exact S_La_law_5 (fu := fu) C hA hst hZ hT hC hX hbl hbA hr0 hr1 hP hD hS hl hf Kc
    have hf := if_f hs5 hf
    by_cases hs6 : (v35 &&& 31) = 6
    · have hf := if_t hs6 hf
      refine W.eq (g2 := F0 m 39 ls [.int 6]) (by rw [hs6]) ?_
      refine lv_tableIn (x := 6) (off := 509) (tgt := 548) hx hb d_La_law_39 (by decide) (by decide) rfl (by decide) ?_
      unfold f_La_c6 at hf
      exact S_La_law_6 (fu := fu) C hA hst hZ hT hC hX hbl hbA hr0 hr1 hP hD hS hl hf Kc
    have hf := if_f hs6 hf
    by_cases hs7 : (v35 &&& 31) = 7
    · have hf := if_t hs7 hf
      refine W.eq (g2 := F0 m 39 ls [.int 7]) (by rw [hs7]) ?_
      refine lv_tableIn (x := 7) (off := 589) (tgt := 628) hx hb d_La_law_39 (by decide) (by decide) rfl (by decide) ?_
      unfold f_La_c7 at hf
      exact S_La_law_7 (fu := fu) C hA hst hZ hT hC hX hbl hbA hr0 hr1 hP hD hS hl hf Kc
    have hf := if_f hs7 hf
    by_cases hs8 : (v35 &&& 31) = 8
    · have hf := if_t hs8 hf
      refine W.eq (g2 := F0 m 39 ls [.int 8]) (by rw [hs8]) ?_
      refine lv_tableIn (x := 8) (off := 602) (tgt := 641) hx hb d_La_law_39 (by decide) (by decide) rfl (by decide) ?_
      unfold f_La_c8 at hf
      exact S_La_law_8 (fu := fu) C hA hst hZ hT hC hX hbl hbA hr0 hr1 hP hD hS hl hf Kc
    have hf := if_f hs8 hf
    by_cases hs9 : (v35 &&& 31) = 9
    · have hf := if_t hs9 hf
      refine W.eq (g2 := F0 m 39 ls [.int 9]) (by rw [hs9]) ?_
      refine lv_tableIn (x := 9) (off := 658) (tgt := 697) hx hb d_La_law_39 (by decide) (by decide) rfl (by decide) ?_
      unfold f_La_c9 at hf
      exact S_La_law_9 (fu := fu) C hA hst hZ hT hC hX hbl hbA hr0 hr1 hP hD hS hl hf Kc
    have hf := if_f hs9 hf
    by_cases hs10 : (v35 &&& 31) = 10
    · have hf := if_t hs10 hf
      refine W.eq (g2 := F0 m 39 ls [.int 10]) (by rw [hs10]) ?_
      refine lv_tableIn (x := 10) (off := 714) (tgt := 753) hx hb d_La_law_39 (by decide) (by decide) rfl (by decide) ?_
      unfold f_La_c10 at hf
      exact S_La_law_10 (fu := fu) C hA hst hZ hT hC hX hbl hbA hr0 hr1 hP hD hS hl hf Kc
    have hf := if_f hs10 hf
    by_cases hs11 : (v35 &&& 31) = 11
    · have hf := if_t hs11 hf
      refine W.eq (g2 := F0 m 39 ls [.int 11]) (by rw [hs11]) ?_
      refine lv_tableIn (x := 11) (off := 727) (tgt := 766) hx hb d_La_law_39 (by decide) (by decide) rfl (by decide) ?_
      unfold f_La_c11 at hf
      exact S_La_law_11 (fu := fu) C hA hst hZ hT hC hX hbl hbA hr0 hr1 hP hD hS hl hf Kc
    have hf := if_f hs11 hf
    by_cases hs12 : (v35 &&& 31) = 12
    · have hf := if_t hs12 hf
      refine W.eq (g2 := F0 m 39 ls [.int 12]) (by rw [hs12]) ?_
      refine lv_tableIn (x := 12) (off := 795) (tgt := 834) hx hb d_La_law_39 (by decide) (by decide) rfl (by decide) ?_
      unfold f_La_c12 at hf
      exact S_La_law_12 (fu := fu) C hA hst hZ hT hC hX hbl hbA hr0 hr1 hP hD hS hl hf Kc
    have hf := if_f hs12 hf
    by_cases hs13 : (v35 &&& 31) = 13
    · have hf := if_t hs13 hf
      refine W.eq (g2 := F0 m 39 ls [.int 13]) (by rw [hs13]) ?_
      refine lv_tableIn (x := 13) (off := 851) (tgt := 890) hx hb d_La_law_39 (by decide) (by decide) rfl (by decide) ?_
      unfold f_La_c13 at hf
      exact S_La_law_13 (fu := fu) C hA hst hZ hT hC hX hbl hbA hr0 hr1 hP hD hS hl hf Kc
    have hf := if_f hs13 hf
    by_cases hs14 : (v35 &&& 31) = 14
    · have hf := if_t hs14 hf
      refine W.eq (g2 := F0 m 39 ls [.int 14]) (by rw [hs14]) ?_
      refine lv_tableIn (x := 14) (off := 864) (tgt := 903) hx hb d_La_law_39 (by decide) (by decide) rfl (by decide) ?_
      unfold f_La_c14 at hf
      exact S_La_law_14 (fu := fu) C hA hst hZ hT hC hX hbl hbA hr0 hr1 hP hD hS hl hf Kc
    have hf := if_f hs14 hf
    by_cases hs15 : (v35 &&& 31) = 15
    · have hf := if_t hs15 hf
      refine W.eq (g2 := F0 m 39 ls [.int 15]) (by rw [hs15]) ?_
      refine lv_tableIn (x := 15) (off := 932) (tgt := 971) hx hb d_La_law_39 (by decide) (by decide) rfl (by decide) ?_
      unfold f_La_c15 at hf
      exact S_La_law_15 (fu := fu) C hA hst hZ hT hC hX hbl hbA hr0 hr1 hP hD hS hl hf Kc
    have hf := if_f hs15 hf
    by_cases hs16 : (v35 &&& 31) = 16
    · have hf := if_t hs16 hf
      refine W.eq (g2 := F0 m 39 ls [.int 16]) (by rw [hs16]) ?_
      refine lv_tableIn (x := 16) (off := 976) (tgt := 1015) hx hb d_La_law_39 (by decide) (by decide) rfl (by decide) ?_
      unfold f_La_c16 at hf
      exact S_La_law_16 (fu := fu) C hA hst hZ hT hC hX hbl hbA hr0 hr1 hP hD hS hl hf Kc
    have hf := if_f hs16 hf
    by_cases hs17 : (v35 &&& 31) = 17
    · have hf := if_t hs17 hf
      refine W.eq (g2 := F0 m 39 ls [.int 17]) (by rw [hs17]) ?_
      refine lv_tableIn (x := 17) (off := 1020) (tgt := 1059) hx hb d_La_law_39 (by decide) (by decide) rfl (by decide) ?_
      unfold f_La_c17 at hf
      exact S_La_law_17 (fu := fu) C hA hst hZ hT hC hX hbl hbA hr0 hr1 hP hD hS hl hf Kc
    have hf := if_f hs17 hf
    by_cases hs18 : (v35 &&& 31) = 18
    · have hf := if_t hs18 hf
      refine W.eq (g2 := F0 m 39 ls [.int 18]) (by rw [hs18]) ?_
      refine lv_tableIn (x := 18) (off := 1088) (tgt := 1127) hx hb d_La_law_39 (by decide) (by decide) rfl (by decide) ?_
      unfold f_La_c18 at hf
      exact S_La_law_18 (fu := fu) C hA hst hZ hT hC hX hbl hbA hr0 hr1 hP hD hS hl hf Kc
    have hf := if_f hs18 hf
    refine lv_tableOut (tgt := 1140) hx hb d_La_law_39 (sw_out hs0 hs1 hs2 hs3 hs4 hs5 hs6 hs7 hs8 hs9 hs10 hs11 hs12 hs13 hs14 hs15 hs16 hs17 hs18) (by decide) ?_
    refine lv_iinc (k := 4) (v := (x4 + 5)) (lv' := [(4, .int (x4 + 5)), (0, .ref b), (1, .ref ra1), (2, .ref ra2), (3, .ref ra3)]) hx hb d_La_law_1140 hl rfl (ii_5 _) (by decide) rfl (fun ls hl => ?_)
    refine lv_goto (tgt := 23) hx hb d_La_law_1143 (by decide) ?_
    cases hf
    refine W.widen (k := kc + 1) (n := ks + 6) (by omega) (by omega) ?_
    exact Kc _ rfl hP hD hS (lv_sub hl [1, 2, 3, 4, 0] rfl)
set_option maxHeartbeats 8000000 in
set_option maxRecDepth 100000 in
theorem L_La_law {p : Program} {l : Launch} {e : Env} {s : State} {m : MethodId} {args : Array Value} {below : List Frame} {meth : Method} {c : Code} {Q : State → Prop} {D : va_G} {cI cJ cZ cN : ClassId} {A : Nat → Prop} {b L : Nat} {xs : Nat → Int32} (C : CxL p s m args c code 7 "WardRosterLaw" D cI cJ cZ cN) (hA : ∀ q, s.heap.size ≤ q → A q) (hst : l.stackTraces = false) (hZ : ZZ A s s.heap) (hT : KT s) (hC : KN s) (hX : va_X b L xs s s.heap) (hbl : b < s.heap.size) (hbA : ¬ A b) {fu : Nat} {ra1 ra1_ward ra1_ward_nurses ra1_ward_n0 ra1_ward_n0_shiftCosts ra1_ward_n0_pairCosts ra1_ward_n0_fixedShifts ra1_ward_n1 ra1_ward_n1_shiftCosts ra1_ward_n1_pairCosts ra1_ward_n1_fixedShifts ra1_ward_n2 ra1_ward_n2_shiftCosts ra1_ward_n2_pairCosts ra1_ward_n2_fixedShifts ra1_ward_needed ra1_walk ra1_search ra1_search_statesAfter ra1_search_steps ra1_pricing ra1_pricing_prices ra1_noPrices ra2 ra2_forbidden ra2_longest ra2_shiftBefore ra2_workedBefore ra2_needs ra2_costs ra2_pairs ra2_fixed ra2_prices ra2_counts ra2_best ra2_plan ra2_rest ra2_after ra2_weight ra2_covers ra2_found ra3 : Nat} : ∀ (n : Nat) (vv : (Int32 × GX × GM × (Nat → Int64))) (kc ks : Nat) {ra1_walk_keys ra1_walk_nextKeys ra1_walk_ways ra1_walk_nextWays ra1_search_keys ra1_search_nextKeys : Nat} {ls : Array Slot} {H : Heap} {locs : List Loc}, kc + n ≤ 601024 → ks + 6 * n ≤ 7293034 → va_P D classes (wAll cI cJ cZ cN ra1 ra1_ward ra1_ward_nurses ra1_ward_n0 ra1_ward_n0_shiftCosts ra1_ward_n0_pairCosts ra1_ward_n0_fixedShifts ra1_ward_n1 ra1_ward_n1_shiftCosts ra1_ward_n1_pairCosts ra1_ward_n1_fixedShifts ra1_ward_n2 ra1_ward_n2_shiftCosts ra1_ward_n2_pairCosts ra1_ward_n2_fixedShifts ra1_ward_needed ra1_walk ra1_walk_keys ra1_walk_nextKeys ra1_walk_ways ra1_walk_nextWays ra1_search ra1_search_statesAfter ra1_search_steps ra1_search_keys ra1_search_nextKeys ra1_pricing ra1_pricing_prices ra1_noPrices ra2 ra2_forbidden ra2_longest ra2_shiftBefore ra2_workedBefore ra2_needs ra2_costs ra2_pairs ra2_fixed ra2_prices ra2_counts ra2_best ra2_plan ra2_rest ra2_after ra2_weight ra2_covers ra2_found ra3 vv.2.1 vv.2.2.1 vv.2.2.2) H → va_D A (wAll cI cJ cZ cN ra1 ra1_ward ra1_ward_nurses ra1_ward_n0 ra1_ward_n0_shiftCosts ra1_ward_n0_pairCosts ra1_ward_n0_fixedShifts ra1_ward_n1 ra1_ward_n1_shiftCosts ra1_ward_n1_pairCosts ra1_ward_n1_fixedShifts ra1_ward_n2 ra1_ward_n2_shiftCosts ra1_ward_n2_pairCosts ra1_ward_n2_fixedShifts ra1_ward_needed ra1_walk ra1_walk_keys ra1_walk_nextKeys ra1_walk_ways ra1_walk_nextWays ra1_search ra1_search_statesAfter ra1_search_steps ra1_search_keys ra1_search_nextKeys ra1_pricing ra1_pricing_prices ra1_noPrices ra2 ra2_forbidden ra2_longest ra2_shiftBefore ra2_workedBefore ra2_needs ra2_costs ra2_pairs ra2_fixed ra2_prices ra2_counts ra2_best ra2_plan ra2_rest ra2_after ra2_weight ra2_covers ra2_found ra3 vv.2.1 vv.2.2.1 vv.2.2.2) → va_S A s.heap H locs → lv_has ls 7 [(0, .ref b), (1, .ref ra1), (2, .ref ra2), (3, .ref ra3), (4, .int vv.1)] → ∀ {r : (Int32 × GX × GM × (Nat → Int64))}, iter (f_La_law_l23 fu L xs) n vv = some r → (∀ (kc ks : Nat) {ls : Array Slot} {H : Heap} {locs : List Loc}, kc ≤ 601024 → ks ≤ 7293034 → va_S A s.heap H locs → lv_has ls 7 [] → W p l e room_1 s m args below meth c H locs kc ks Q (F0 m 1146 ls [])) → W p l e room_1 s m args below meth c H locs kc ks Q (F0 m 23 ls []) := by
  intro n
  induction n with
  | zero => intro vv kc ks ra1_walk_keys ra1_walk_nextKeys ra1_walk_ways ra1_walk_nextWays ra1_search_keys ra1_search_nextKeys ls H locs h1 h2 hP hD hS hl r hf K; cases hf
  | succ n ih =>
    intro vv kc ks ra1_walk_keys ra1_walk_nextKeys ra1_walk_ways ra1_walk_nextWays ra1_search_keys ra1_search_nextKeys ls H locs hk1 hk2 hP hD hS hl r hf K
    obtain ⟨q, h1, h2⟩ := it_s hf
    refine T_La_law_l23 C hA hst hZ hT hC hX hbl hbA ⟨by omega, by omega⟩ ⟨by omega, by omega⟩ hP hD hS hl (q := q) h1 (fun v e => ?_) (fun v e => ?_)
    · subst e
      intro ls H locs ra1_walk_keys ra1_walk_nextKeys ra1_walk_ways ra1_walk_nextWays ra1_search_keys ra1_search_nextKeys hP hD hS hl; exact ih v (kc + 1) (ks + 6) (by omega) (by omega) hP hD hS hl h2 K
    · subst e
      intro ls H locs ra1_walk_keys ra1_walk_nextKeys ra1_walk_ways ra1_walk_nextWays ra1_search_keys ra1_search_nextKeys hP hD hS hl; exact K (kc + 1) (ks + 6) (by omega) (by omega) hS hl
