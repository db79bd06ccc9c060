/-! the reference's goBack: one triple of states -/
def sr (s w : Nat) : Nat := if s = 0 then 0 else 4 * (s - 1) + w
def us (lg x : Nat) : Bool := decide (x = 0) || decide (rr x ≤ lg)
def rA (lgN : Nat → Nat) (fbA fi : Nat → Int32) (n d u s : Nat) : Option Nat := rd_d (lgN n) (fbA n) (fun d => fi (6 * n + d)) d (st3 u n) s
def rB (rep : Int32) (pl co pa : Nat → Int32) (n d u s : Nat) : Int := (wR rep pl co pa n d (ra (st3 u n)) s).toInt
def rS (lgN : Nat → Nat) (fbA fi nd : Nat → Int32) (d u k : Nat) : Option Nat := st64 (fun k => cov nd d k 3) (rA lgN fbA fi 0 d u) (rA lgN fbA fi 1 d u) (rA lgN fbA fi 2 d u) k
def rV (rep : Int32) (pl co pa : Nat → Int32) (d u k : Nat) : Int := w64 (rB rep pl co pa 0 d u) (rB rep pl co pa 1 d u) (rB rep pl co pa 2 d u) k
theorem rd_lt {lg : Nat} {fb : Int32} {fx : Nat → Int32} (hlg : lg ≤ 4) {d x s y : Nat} (hs : s < 4) (h : rd_d lg fb fx d x s = some y) : y < 13 ∧ us lg y = true ∧ ra y = s := by
  unfold rd_d at h
  split at h
  · rename_i hc
    obtain ⟨_, _, h3⟩ := hc
    by_cases h0 : s = 0
    · rw [if_pos h0] at h; cases h; exact ⟨by omega, rfl, by rw [h0]; rfl⟩
    · rw [if_neg h0] at h
      cases h
      have h3 : rr x + 1 ≤ lg := by rcases h3 with h3 | h3; exact absurd h3 h0; exact h3
      generalize rr x = y at *
      have e1 : rr (4 * (s - 1) + (y + 1)) = y + 1 := by
        unfold rr
        rw [if_neg (by omega)]
        omega
      refine ⟨by omega, ?_, ?_⟩
      · unfold us
        rw [e1, decide_eq_true h3, Bool.or_true]
      · unfold ra
        rw [if_neg (by omega)]
        omega
  · cases h
theorem wR_bd {rep : Int32} {pl co pa : Nat → Int32} (hco : Lim 72 99 co) (hpa : Lim 48 99 pa) {n d l s : Nat} (hn : n < 3) (hd : d < 6) (hl : l < 4) (hs : s < 4) : (wR rep pl co pa n d l s).toInt = (co (24 * n + (4 * d + s))).toInt + (pa (16 * n + (4 * l + s))).toInt + (if chR rep pl n d s = true then 100000 else 0) ∧ 0 ≤ (wR rep pl co pa n d l s).toInt ∧ (wR rep pl co pa n d l s).toInt ≤ 200000 := by
  have h1 := hco (24 * n + (4 * d + s)) (by omega)
  have h2 := hpa (16 * n + (4 * l + s)) (by omega)
  have e : (wR rep pl co pa n d l s).toInt = (co (24 * n + (4 * d + s))).toInt + (pa (16 * n + (4 * l + s))).toInt + (if chR rep pl n d s = true then 100000 else 0) := by
    unfold wR
    have e5 : (100000 : Int32).toInt = 100000 := by decide
    by_cases h : chR rep pl n d s = true
    · rw [if_pos h, if_pos h]
      have e3 := toInt_add' (a := co (24 * n + (4 * d + s))) (b := pa (16 * n + (4 * l + s))) (by omega) (by omega)
      rw [toInt_add' (by rw [e3, e5]; omega) (by rw [e3, e5]; omega), e3, e5]
    · rw [if_neg h, if_neg h, toInt_add' (by omega) (by omega)]; omega
  refine ⟨e, ?_, ?_⟩ <;> rw [e] <;> split <;> omega
theorem rV_bd {rep : Int32} {pl co pa : Nat → Int32} (hco : Lim 72 99 co) (hpa : Lim 48 99 pa) {d u k : Nat} (hd : d < 6) (hk : k < 64) : 0 ≤ rV rep pl co pa d u k ∧ rV rep pl co pa d u k ≤ 600000 := by
  unfold rV w64 rB
  have h0 := (wR_bd (rep := rep) (pl := pl) hco hpa (n := 0) (d := d) (l := ra (st3 u 0)) (s := k / 16) (by omega) hd (ra_lt (st_lt _ _)) (by omega)).2
  have h1 := (wR_bd (rep := rep) (pl := pl) hco hpa (n := 1) (d := d) (l := ra (st3 u 1)) (s := k / 4 % 4) (by omega) hd (ra_lt (st_lt _ _)) (by omega)).2
  have h2 := (wR_bd (rep := rep) (pl := pl) hco hpa (n := 2) (d := d) (l := ra (st3 u 2)) (s := k % 4) (by omega) hd (ra_lt (st_lt _ _)) (by omega)).2
  omega
theorem st_tri {a b c : Nat} (ha : a < 13) (hb : b < 13) (hc : c < 13) : st3 (169 * a + 13 * b + c) 0 = a ∧ st3 (169 * a + 13 * b + c) 1 = b ∧ st3 (169 * a + 13 * b + c) 2 = c := by
  unfold st3
  simp [sg]
  omega
/-- which places of rest goBack fills with the least weight -/
def ask (lgN : Nat → Nat) (t0 d u : Nat) : Bool := if d = 0 then decide (u = t0) else us (lgN 0) (st3 u 0) && (us (lgN 1) (st3 u 1) && us (lgN 2) (st3 u 2))
def RO (S : Nat → Nat → Nat → Option Nat) (W : Nat → Nat → Nat → Int) (lgN : Nat → Nat) (t0 D d : Nat) (rest : Nat → Int32) : Prop := ∀ e u, d ≤ e → e ≤ D → u < 2197 → (e = D ∨ ask lgN t0 e u = true) → rest (2197 * e + u) = iI (rs S W D (D - e) u)
theorem lh_of {d D a b c t0 : Nat} {lgN : Nat → Nat} {fbA fi co pa pl nd rest af we cv : Nat → Int32} {rep : Int32} (hD : D ≤ 6) (hd : d < D) (ha : a < 13) (hb : b < 13) (hc : c < 13) (hlg : ∀ n, n < 3 → lgN n ≤ 4) (hco : Lim 72 99 co) (hpa : Lim 48 99 pa) (hp : Prep lgN fbA fi co pa pl nd rep d af we cv) (hr : RO (rS lgN fbA fi nd) (rV rep pl co pa) lgN t0 D (d + 1) rest) :
    LH d a b c (fun k => cov nd d k 3) (rA lgN fbA fi 0 d (169 * a + 13 * b + c)) (rA lgN fbA fi 1 d (169 * a + 13 * b + c)) (rA lgN fbA fi 2 d (169 * a + 13 * b + c)) (rB rep pl co pa 0 d (169 * a + 13 * b + c)) (rB rep pl co pa 1 d (169 * a + 13 * b + c)) (rB rep pl co pa 2 d (169 * a + 13 * b + c)) (rs (rS lgN fbA fi nd) (rV rep pl co pa) D (D - (d + 1))) rest af we cv := by
  obtain ⟨s0, s1, s2⟩ := st_tri ha hb hc
  have hw : ∀ n s, n < 3 → s < 4 → 0 ≤ rB rep pl co pa n d (169 * a + 13 * b + c) s ∧ rB rep pl co pa n d (169 * a + 13 * b + c) s ≤ 200000 := fun n s hn hs => (wR_bd hco hpa hn (by omega) (ra_lt (st_lt _ _)) hs).2
  have e0 : ∀ i, 52 * 0 + 4 * a + i = 4 * a + i := fun i => by omega
  have e1 : ∀ i, 52 * 1 + 4 * b + i = 52 + 4 * b + i := fun i => by omega
  have e2 : ∀ i, 52 * 2 + 4 * c + i = 104 + 4 * c + i := fun i => by omega
  refine ⟨by omega, ha, hb, hc, fun i hi => ?_, fun i hi => ?_, fun i hi => ?_, fun i hi => ?_, fun i hi => ?_, fun i hi => ?_, fun i x hi h => (rd_lt (hlg 0 (by omega)) hi h).1, fun i x hi h => (rd_lt (hlg 1 (by omega)) hi h).1, fun i x hi h => (rd_lt (hlg 2 (by omega)) hi h).1, fun i hi => hw 0 i (by omega) hi, fun i hi => hw 1 i (by omega) hi, fun i hi => hw 2 i (by omega) hi, hp.2, ?_, ?_⟩
  · have := (hp.1 0 a i (by omega) ha hi).1
    rw [e0] at this
    rw [this]; unfold rA; rw [s0]
  · have := (hp.1 1 b i (by omega) hb hi).1
    rw [e1] at this
    rw [this]; unfold rA; rw [s1]
  · have := (hp.1 2 c i (by omega) hc hi).1
    rw [e2] at this
    rw [this]; unfold rA; rw [s2]
  · have := (hp.1 0 a i (by omega) ha hi).2
    rw [e0] at this
    rw [this]; unfold rB; rw [s0]; exact (Int32.ofInt_toInt _).symm
  · have := (hp.1 1 b i (by omega) hb hi).2
    rw [e1] at this
    rw [this]; unfold rB; rw [s1]; exact (Int32.ofInt_toInt _).symm
  · have := (hp.1 2 c i (by omega) hc hi).2
    rw [e2] at this
    rw [this]; unfold rB; rw [s2]; exact (Int32.ofInt_toInt _).symm
  · intro i j l x y z hi hj hl h0 h1 h2
    obtain ⟨a1, a2, _⟩ := rd_lt (hlg 0 (by omega)) hi h0
    obtain ⟨b1, b2, _⟩ := rd_lt (hlg 1 (by omega)) hj h1
    obtain ⟨c1, c2, _⟩ := rd_lt (hlg 2 (by omega)) hl h2
    obtain ⟨t0', t1', t2'⟩ := st_tri a1 b1 c1
    refine hr (d + 1) _ (Nat.le_refl _) (by omega) (by omega) (.inr ?_)
    unfold ask
    rw [if_neg (by omega), t0', t1', t2', a2, b2, c2]; rfl
  · intro t
    have := (rs_all (S := rS lgN fbA fi nd) (W := rV rep pl co pa) hD (fun d t k hd hk => rV_bd hco hpa (by omega) hk) (D - (d + 1)) (by omega) t).1
    rcases this with h | ⟨h, h'⟩
    · exact .inl h
    · refine .inr ⟨h, ?_⟩
      have : (D - (d + 1) : Nat) ≤ 5 := by omega
      omega
