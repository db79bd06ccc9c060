/-! the reference's prepare: steps and weights of a day -/
def ra (x : Nat) : Nat := if x = 0 then 0 else (x - 1) / 4 + 1
def rr (x : Nat) : Nat := if x = 0 then 0 else (x - 1) % 4 + 1
def rd_d (lg : Nat) (fb : Int32) (fx : Nat → Int32) (d x s : Nat) : Option Nat :=
  if okX (fx d) s = true ∧ okF fb (4 * ra x + s) = true ∧ (s = 0 ∨ rr x + 1 ≤ lg) then some (if s = 0 then 0 else 4 * (s - 1) + (rr x + 1)) else none
def chR (rep : Int32) (pl : Nat → Int32) (n d s : Nat) : Bool := !decide (rep = 0) && !decide (pl (6 * n + d) = mI s)
def wR (rep : Int32) (pl co pa : Nat → Int32) (n d l s : Nat) : Int32 := if chR rep pl n d s = true then co (24 * n + (4 * d + s)) + pa (16 * n + (4 * l + s)) + 100000 else co (24 * n + (4 * d + s)) + pa (16 * n + (4 * l + s))
theorem ra_lt {x : Nat} (h : x < 13) : ra x < 4 := by unfold ra; split <;> omega
theorem rr_le (x : Nat) : rr x ≤ 4 := by unfold rr; split <;> omega
theorem q_b174 {d k n s l : Nat} {A rep : Int32} {co pa pl af we : Nat → Int32} (hd : d < 6) (hk : k < 156) (hn : n < 3) (hs : s < 4) (hl : l < 4) : f_Wm_prepare_b174 (mI d) (mI k) (mI n) (mI s) (mI l) A (mI k) rep co pa pl af we = some (.inl (mI (k + 1), upd af k A, upd we k (wR rep pl co pa n d l s))) := by
  unfold f_Wm_prepare_b174
  rw [si_n hk (by omega), sb]
  show ((gi 72 co (((mI 24 * mI n) + (mI 4 * mI d)) + mI s)).bind fun v190 => (gi 48 pa (((mI 16 * mI n) + (mI 4 * mI l)) + mI s)).bind fun v207 => if rep = 0 then f_Wm_prepare_b247 (mI k) (v190 + v207) (mI k) (upd af k A) we else (gi 18 pl ((mI 6 * mI n) + mI d)).bind fun v233 => if v233 = mI s then f_Wm_prepare_b247 (mI k) (v190 + v207) (mI k) (upd af k A) we else f_Wm_prepare_b249 (mI k) ((v190 + v207) + 100000) (mI k) (upd af k A) we) = _
  rw [mI_mul, mI_mul, mI_add, mI_add, mI_mul, mI_mul, mI_add, mI_add, mI_mul, mI_add, gi_n (by omega) (by omega), sb, gi_n (by omega) (by omega), sb, gi_n (by omega) (by omega), sb, Nat.add_assoc, Nat.add_assoc]
  unfold f_Wm_prepare_b247 f_Wm_prepare_b249 wR chR
  rw [si_n hk (by omega), sb, si_n hk (by omega), sb, mI_1]
  by_cases h1 : rep = 0
  · rw [if_pos h1]; simp [h1]
  · rw [if_neg h1]
    by_cases h2 : pl (6 * n + d) = mI s
    · rw [if_pos h2]; simp [h2]
    · rw [if_neg h2]; simp [h1, h2]
theorem q_b138 {d k n s l r : Nat} {rep : Int32} {co pa pl af we : Nat → Int32} (b : Bool) (hs : s < 4) : f_Wm_prepare_b138 (mI d) (mI k) (mI n) (mI s) (mI l) (mI r) (bI b) rep co pa pl af we = f_Wm_prepare_b174 (mI d) (mI k) (mI n) (mI s) (mI l) (enc (if b = true then some (if s = 0 then 0 else 4 * (s - 1) + (r + 1)) else none)) (mI k) rep co pa pl af we := by
  unfold f_Wm_prepare_b138
  cases b with
  | false => rw [if_pos (show bI false = 0 from rfl)]; rfl
  | true =>
    rw [if_neg (show ¬ bI true = 0 by decide), if_pos rfl]
    have e0 : (mI s = 0) ↔ s = 0 := mI_inj (b := 0) (by omega) (by omega)
    by_cases h : s = 0
    · rw [if_pos (e0.2 h), if_pos h]; rfl
    · rw [if_neg (fun q => h (e0.1 q)), if_neg h]
      have e : ((mI 4 * (mI s - mI 1)) + mI r) + mI 1 = mI (4 * (s - 1) + (r + 1)) := by
        rw [mI_sub (by omega), mI_mul, mI_add, mI_add, Nat.add_assoc]
      show f_Wm_prepare_b174 (mI d) (mI k) (mI n) (mI s) (mI l) (((mI 4 * (mI s - mI 1)) + mI r) + mI 1) (mI k) rep co pa pl af we = _
      rw [e]; rfl
theorem q_b96 {d k n s l r lg : Nat} {rep : Int32} {fbA lgA co pa pl af we : Nat → Int32} (hn : n < 3) (hs : s < 4) (hr : r < 100) (hlg : lg < 100) (hla : lgA n = mI lg) : f_Wm_prepare_b96 (mI d) (mI k) (mI n) (mI s) (mI l) (mI r) rep fbA lgA co pa pl af we = f_Wm_prepare_b138 (mI d) (mI k) (mI n) (mI s) (mI l) (mI r) (bI (okF (fbA n) (4 * l + s) && (decide (s = 0) || decide (r + 1 ≤ lg)))) rep co pa pl af we := by
  unfold f_Wm_prepare_b96 f_Wm_prepare_b133 f_Wm_prepare_b137
  rw [gi_n hn (by omega), sb]
  show (if ((fbA n >>> (((mI 4 * mI l) + mI s) &&& 31)) &&& 1) = 0 then _ else _) = _
  rw [mI_mul, mI_add, gi_n hn (by omega), sb, hla, mI_1]
  have e0 : (mI s = 0) ↔ s = 0 := mI_inj (b := 0) (by omega) (by omega)
  unfold okF
  by_cases h : ((fbA n >>> (mI (4 * l + s) &&& 31)) &&& 1) = 0
  · rw [if_pos h, decide_eq_true h, Bool.true_and]
    by_cases h0 : s = 0
    · rw [if_pos (e0.2 h0), decide_eq_true h0, Bool.true_or]; rfl
    · rw [if_neg (fun q => h0 (e0.1 q)), decide_eq_false h0, Bool.false_or]
      by_cases h2 : r + 1 ≤ lg
      · rw [if_neg (by rw [mI_lt (by omega) (by omega)]; omega), decide_eq_true h2]; rfl
      · rw [if_pos (by rw [mI_lt (by omega) (by omega)]; omega), decide_eq_false h2]; rfl
  · rw [if_neg h, decide_eq_false h, Bool.false_and]; rfl
theorem q_b68 {d k n s l r lg : Nat} {rep : Int32} {fbA lgA co pa fi pl af we : Nat → Int32} (hd : d < 6) (hn : n < 3) (hs : s < 4) (hr : r < 100) (hlg : lg < 100) (hla : lgA n = mI lg) : f_Wm_prepare_b68 (mI d) (mI k) (mI n) (mI s) (mI l) (mI r) rep fbA lgA co pa fi pl af we = f_Wm_prepare_b138 (mI d) (mI k) (mI n) (mI s) (mI l) (mI r) (bI (okX (fi (6 * n + d)) s && (okF (fbA n) (4 * l + s) && (decide (s = 0) || decide (r + 1 ≤ lg))))) rep co pa pl af we := by
  unfold f_Wm_prepare_b68 f_Wm_prepare_b137
  show ((gi 18 fi ((mI 6 * mI n) + mI d)).bind _) = _
  rw [mI_mul, mI_add, gi_n (by omega) (by omega), sb, q_b96 hn hs hr hlg hla]
  unfold okX
  by_cases h1 : fi (6 * n + d) = -1
  · rw [if_pos h1, decide_eq_true h1, Bool.true_or, Bool.true_and]
  · rw [if_neg h1, decide_eq_false h1, Bool.false_or]
    by_cases h2 : fi (6 * n + d) = mI s
    · rw [if_pos h2, decide_eq_true h2, Bool.true_and]
    · rw [if_neg h2, decide_eq_false h2, Bool.false_and]; rfl
theorem q_step {d k n x s lg : Nat} {rep : Int32} {fbA lgA co pa fi pl af we : Nat → Int32} (hd : d < 6) (hn : n < 3) (hx : x < 13) (hs : s < 4) (hlg : lg ≤ 4) (hk : k < 156) (hla : lgA n = mI lg) : f_Wm_prepare_b44 (mI d) (mI k) (mI n) (mI x) (mI s) (mI (ra x)) rep fbA lgA co pa fi pl af we = some (.inl (mI (k + 1), upd af k (enc (rd_d lg (fbA n) (fun d => fi (6 * n + d)) d x s)), upd we k (wR rep pl co pa n d (ra x) s))) := by
  have hra := ra_lt hx
  have hrr := rr_le x
  have key : ∀ r, r ≤ 4 → (s ≠ 0 → r = rr x) → f_Wm_prepare_b68 (mI d) (mI k) (mI n) (mI s) (mI (ra x)) (mI r) rep fbA lgA co pa fi pl af we = some (.inl (mI (k + 1), upd af k (enc (rd_d lg (fbA n) (fun d => fi (6 * n + d)) d x s)), upd we k (wR rep pl co pa n d (ra x) s))) := by
    intro r hr he
    rw [q_b68 hd hn hs (by omega) (by omega) hla, q_b138 _ hs, q_b174 hd hk hn hs hra]
    have e : (if (okX (fi (6 * n + d)) s && (okF (fbA n) (4 * ra x + s) && (decide (s = 0) || decide (r + 1 ≤ lg)))) = true then some (if s = 0 then 0 else 4 * (s - 1) + (r + 1)) else none) = rd_d lg (fbA n) (fun d => fi (6 * n + d)) d x s := by
      unfold rd_d
      by_cases h0 : s = 0
      · subst h0; simp
      · rw [he h0]; simp [h0]
    rw [e]
  unfold f_Wm_prepare_b44 f_Wm_prepare_b56
  have e0 : (mI s = 0) ↔ s = 0 := mI_inj (b := 0) (by omega) (by omega)
  have ex : (mI x = 0) ↔ x = 0 := mI_inj (b := 0) (by omega) (by omega)
  by_cases h0 : s = 0
  · rw [if_pos (e0.2 h0)]
    exact key 0 (by omega) (fun h => absurd h0 h)
  · rw [if_neg (fun q => h0 (e0.1 q))]
    by_cases hx0 : x = 0
    · rw [if_pos (ex.2 hx0)]
      exact key 0 (by omega) (fun _ => by rw [hx0]; rfl)
    · rw [if_neg (fun q => hx0 (ex.1 q))]
      have e : ((mI x - mI 1) - (mI x - mI 1) / mI 4 * mI 4) + mI 1 = mI (rr x) := by
        unfold rr
        rw [if_neg hx0, mI_sub (by omega), mI_div (by omega) (by omega), mI_mul, mI_sub (by omega), mI_add]
        congr 1
        omega
      show f_Wm_prepare_b68 (mI d) (mI k) (mI n) (mI s) (mI (ra x)) (((mI x - mI 1) - (mI x - mI 1) / mI 4 * mI 4) + mI 1) rep fbA lgA co pa fi pl af we = _
      rw [e]
      exact key (rr x) hrr (fun _ => rfl)
