/-! codes and digits -/
theorem pf_pb_s (n : Nat) : ∀ q, pf_pb q (n + 1) = pf_pb (q / 2) n + q % 2 := by
  induction n with
  | zero => intro q; simp [pf_pb]
  | succ n ih =>
    intro q
    rw [pf_pb, ih, pf_pb, Nat.div_div_eq_div_mul, Nat.pow_succ, Nat.mul_comm 2 (2 ^ n)]
    omega
theorem pf_pb_pc (n : Nat) : ∀ q, pf_pb q n = pf_pc n q := by
  induction n with
  | zero => intro q; rfl
  | succ n ih => intro q; rw [pf_pb_s, ih, pf_pc]
theorem pf_pc0 (n : Nat) : pf_pc n 0 = 0 := by
  induction n with
  | zero => rfl
  | succ n ih => rw [pf_pc, Nat.zero_div, ih]
theorem pf_pc_N (n : Nat) : ∀ N q, n ≤ N → q < 2 ^ n → pf_pc N q = pf_pc n q := by
  induction n with
  | zero =>
    intro N q _ hq
    have : q = 0 := by simpa using hq
    subst this
    rw [pf_pc0, pf_pc0]
  | succ n ih =>
    intro N q hN hq
    obtain ⟨M, rfl⟩ : ∃ M, N = M + 1 := ⟨N - 1, by omega⟩
    rw [pf_pc, pf_pc, ih M (q / 2) (by omega) (by rw [Nat.pow_succ] at hq; omega)]
theorem pf_pb30 {n q : Nat} (hn : n ≤ 30) (hq : q < 2 ^ n) : pf_pb q 30 = pf_pc n q := by
  rw [pf_pb_pc, pf_pc_N n 30 q hn hq]
theorem pf_pc_le (n : Nat) : ∀ q, pf_pc n q ≤ n := by
  induction n with
  | zero => intro q; exact Nat.le_refl _
  | succ n ih => intro q; rw [pf_pc]; have := ih (q / 2); omega
theorem pf_A_eq (s n : Nat) : ∀ q, pf_A s n q = s + pf_pc n q + 5 * (n - pf_pc n q) := by
  induction n with
  | zero => intro q; rfl
  | succ n ih =>
    intro q
    rw [pf_A, ih, pf_pc]
    have := pf_pc_le n (q / 2)
    by_cases h : q % 2 = 1
    · rw [if_pos h]; omega
    · rw [if_neg h]; omega
theorem pf_dd (q r : Nat) : q / 2 ^ r / 2 = q / 2 ^ (r + 1) := by rw [Nat.div_div_eq_div_mul, ← Nat.pow_succ]
theorem pf_dd2 (q r : Nat) : q / 2 / 2 ^ r = q / 2 ^ (r + 1) := by rw [Nat.div_div_eq_div_mul, Nat.mul_comm 2, ← Nat.pow_succ]
theorem pf_A_mono (s k : Nat) : ∀ m q, pf_A s m (q / 2 ^ k) ≤ pf_A s (m + k) q := by
  induction k with
  | zero => intro m q; rw [Nat.pow_zero, Nat.div_one]; exact Nat.le_refl _
  | succ k ih =>
    intro m q
    have h := ih m (q / 2)
    rw [pf_dd2] at h
    rw [show m + (k + 1) = (m + k) + 1 by omega, pf_A]
    omega
theorem pf_C_s (s n : Nat) : ∀ q, (pf_C s n q).testBit s = true := by
  induction n with
  | zero => intro q; rw [pf_C, Nat.testBit_two_pow]; exact decide_eq_true rfl
  | succ n ih => intro q; rw [pf_C, Nat.testBit_or, ih, Bool.true_or]
theorem pf_C_0 (s n q : Nat) : pf_C s n q ≠ 0 := by
  intro h
  have := pf_C_s s n q
  rw [h, Nat.zero_testBit] at this
  exact Bool.noConfusion this
theorem pf_C_lt (s n : Nat) : ∀ q, pf_A s n q < 30 → pf_C s n q < 2 ^ 30 := by
  induction n with
  | zero => intro q h; exact Nat.pow_lt_pow_right (by decide) h
  | succ n ih =>
    intro q h
    rw [pf_A] at h
    rw [pf_C]
    refine Nat.or_lt_two_pow (ih _ ?_) (Nat.pow_lt_pow_right (by decide) h)
    by_cases h1 : q % 2 = 1
    · rw [if_pos h1] at h; omega
    · rw [if_neg h1] at h; omega
/-! the list of the codes' paths as far as a loop has come -/
def pf_cl (bl s d q : Nat) : List Nat := (((List.range q).filter (fun q => pf_pb q 30 == d)).map (pf_C s (5 + d))).filter (fun m => m &&& bl == 0)
def pf_fp (bl s d q : Nat) : Nat := if pf_pb q 30 = d then (if pf_C s (5 + d) q &&& bl = 0 then pf_C s (5 + d) q else 0) else 0
theorem pf_cl_s (bl s d q : Nat) : pf_cl bl s d (q + 1) = pf_cl bl s d q ++ (if pf_fp bl s d q = 0 then [] else [pf_fp bl s d q]) := by
  rw [pf_cl, List.range_succ, List.filter_append, List.map_append, List.filter_append, pf_cl, pf_fp]
  congr 1
  by_cases h : pf_pb q 30 = d
  · rw [if_pos h]
    have e1 : (pf_pb q 30 == d) = true := by rw [h]; exact beq_self_eq_true d
    by_cases h2 : pf_C s (5 + d) q &&& bl = 0
    · rw [if_pos h2, if_neg (pf_C_0 s (5 + d) q)]
      simp [e1, h2]
    · rw [if_neg h2, if_pos rfl]
      simp [e1, h2]
  · rw [if_neg h, if_pos rfl]
    have e1 : (pf_pb q 30 == d) = false := by simpa using h
    simp [e1]
theorem pf_cl_mono (bl s d q k : Nat) : (pf_cl bl s d q).length ≤ (pf_cl bl s d (q + k)).length := by
  induction k with
  | zero => exact Nat.le_refl _
  | succ k ih =>
    rw [← Nat.add_assoc, pf_cl_s, List.length_append]
    omega
theorem pf_cl_end (bl s g : Nat) (hs : s < 5) (hg : g < 5) (h : s ≤ g) : pf_cl bl s (g - s) (2 ^ (5 + (g - s))) = (pf_tab s g).filter (fun m => m &&& bl == 0) := by
  rw [pf_cl, pf_tabC s hs g hg h]
theorem pf_cl_room (bl s g q : Nat) (hs : s < 5) (hg : g < 5) (h : s ≤ g) (hq : q < 2 ^ (5 + (g - s))) (hf : pf_fp bl s (g - s) q ≠ 0) : (pf_cl bl s (g - s) q).length < 126 := by
  have h1 := pf_cl_mono bl s (g - s) (q + 1) (2 ^ (5 + (g - s)) - (q + 1))
  rw [show q + 1 + (2 ^ (5 + (g - s)) - (q + 1)) = 2 ^ (5 + (g - s)) by omega, pf_cl_end bl s g hs hg h, pf_cl_s, if_neg hf, List.length_append] at h1
  have h2 : ((pf_tab s g).filter (fun m => m &&& bl == 0)).length ≤ (pf_tab s g).length := List.length_filter_le _ _
  have h3 := pf_tabL s hs g hg
  have h4 : [pf_fp bl s (g - s) q].length = 1 := rfl
  omega
/-! counting codes, and the table of ways -/
def pf_ct (f : Nat → Bool) : Nat → Nat
  | 0 => 0
  | n + 1 => pf_ct f n + (if f n = true then 1 else 0)
theorem pf_ct2 (f : Nat → Bool) (N : Nat) : pf_ct f (2 * N) = pf_ct (fun q => f (2 * q)) N + pf_ct (fun q => f (2 * q + 1)) N := by
  induction N with
  | zero => rfl
  | succ N ih =>
    rw [show 2 * (N + 1) = 2 * N + 1 + 1 by omega, pf_ct, pf_ct, pf_ct, pf_ct, ih]
    omega
theorem pf_ct_congr (f h : Nat → Bool) : ∀ N, (∀ q, q < N → f q = h q) → pf_ct f N = pf_ct h N := by
  intro N
  induction N with
  | zero => intro _; rfl
  | succ N ih =>
    intro e
    rw [pf_ct, pf_ct, e N (Nat.lt_succ_self N), ih (fun q hq => e q (by omega))]
theorem pf_ct_0 (f : Nat → Bool) : ∀ N, (∀ q, q < N → f q = false) → pf_ct f N = 0 := by
  intro N
  induction N with
  | zero => intro _; rfl
  | succ N ih =>
    intro e
    rw [pf_ct, e N (Nat.lt_succ_self N), ih (fun q hq => e q (by omega))]
    rfl
def pf_fq (bl s n d q : Nat) : Bool := pf_pc n q == d && (pf_C s n q &&& bl == 0)
def pf_cnt (bl s n d : Nat) : Nat := pf_ct (pf_fq bl s n d) (2 ^ n)
theorem pf_cnt_big (bl s n d : Nat) (h : n < d) : pf_cnt bl s n d = 0 := by
  apply pf_ct_0
  intro q _
  have := pf_pc_le n q
  rw [pf_fq, show (pf_pc n q == d) = false by simp; omega, Bool.false_and]
theorem pf_or0 (a b x : Nat) : ((a ||| 2 ^ x) &&& b == 0) = ((a &&& b == 0) && !b.testBit x) := by
  rw [Bool.eq_iff_iff, Bool.and_eq_true, beq_iff_eq, beq_iff_eq, pf_and0, pf_and0]
  constructor
  · intro h
    refine ⟨fun y hy => h y (by rw [Nat.testBit_or, hy, Bool.true_or]), ?_⟩
    rw [h x (by rw [Nat.testBit_or, Nat.testBit_two_pow, decide_eq_true rfl, Bool.or_true])]
    rfl
  · intro h y hy
    rw [Nat.testBit_or, Nat.testBit_two_pow, Bool.or_eq_true] at hy
    rcases hy with hy | hy
    · exact h.1 y hy
    · have e := of_decide_eq_true hy
      subst e
      have h2 := h.2
      cases hb : b.testBit x with
      | false => rfl
      | true => rw [hb] at h2; exact Bool.noConfusion h2
theorem pf_cnt_s (bl s n d : Nat) : pf_cnt bl s (n + 1) d = if bl.testBit (s + d + 5 * (n + 1 - d)) = true then 0 else pf_cnt bl s n d + (if 0 < d then pf_cnt bl s n (d - 1) else 0) := by
  have h0 : ∀ q, pf_fq bl s (n + 1) d (2 * q) = (pf_fq bl s n d q && !bl.testBit (s + d + 5 * (n + 1 - d))) := by
    intro q
    rw [pf_fq, pf_pc, pf_C, show 2 * q / 2 = q by omega, show 2 * q % 2 = 0 by omega, if_neg (by decide), Nat.add_zero, pf_or0, pf_fq]
    by_cases h : pf_pc n q = d
    · have := pf_pc_le n q
      rw [pf_A_eq, h, show s + d + 5 * (n - d) + 5 = s + d + 5 * (n + 1 - d) by omega, Bool.and_assoc]
    · rw [show (pf_pc n q == d) = false by simpa using h]
      rfl
  have h1 : ∀ q, pf_fq bl s (n + 1) d (2 * q + 1) = ((decide (0 < d) && pf_fq bl s n (d - 1) q) && !bl.testBit (s + d + 5 * (n + 1 - d))) := by
    intro q
    rw [pf_fq, pf_pc, pf_C, show (2 * q + 1) / 2 = q by omega, show (2 * q + 1) % 2 = 1 by omega, if_pos rfl, pf_or0, pf_fq]
    by_cases hd : 0 < d
    · rw [decide_eq_true hd, Bool.true_and]
      by_cases h : pf_pc n q = d - 1
      · have := pf_pc_le n q
        rw [pf_A_eq, h, show d - 1 + 1 = d by omega, show s + (d - 1) + 5 * (n - (d - 1)) + 1 = s + d + 5 * (n + 1 - d) by omega, beq_self_eq_true, beq_self_eq_true, Bool.true_and, Bool.true_and]
      · rw [show (pf_pc n q + 1 == d) = false by simp; omega, show (pf_pc n q == d - 1) = false by simpa using h]
        rfl
    · rw [decide_eq_false hd, show (pf_pc n q + 1 == d) = false by simp; omega]
      rfl
  rw [pf_cnt, Nat.pow_succ, Nat.mul_comm, pf_ct2, pf_ct_congr _ _ _ (fun q _ => h0 q), pf_ct_congr _ _ _ (fun q _ => h1 q)]
  by_cases hb : bl.testBit (s + d + 5 * (n + 1 - d)) = true
  · rw [if_pos hb, hb, pf_ct_0 _ _ (fun q _ => by rw [Bool.not_true, Bool.and_false]), pf_ct_0 _ _ (fun q _ => by rw [Bool.not_true, Bool.and_false])]
  · rw [if_neg hb]
    have hb' : bl.testBit (s + d + 5 * (n + 1 - d)) = false := by simpa using hb
    rw [hb', pf_ct_congr (fun q => pf_fq bl s n d q && !false) (pf_fq bl s n d) _ (fun q _ => by rw [Bool.not_false, Bool.and_true])]
    by_cases hd : 0 < d
    · rw [if_pos hd, pf_ct_congr (fun q => decide (0 < d) && pf_fq bl s n (d - 1) q && !false) (pf_fq bl s n (d - 1)) _ (fun q _ => by rw [decide_eq_true hd, Bool.true_and, Bool.not_false, Bool.and_true])]
      rfl
    · rw [if_neg hd, pf_ct_0 (fun q => decide (0 < d) && pf_fq bl s n (d - 1) q && !false) _ (fun q _ => by rw [decide_eq_false hd, Bool.false_and, Bool.false_and])]
      rfl
def pf_wv (bl s x : Nat) : Nat := if s ≤ x % 5 then pf_cnt bl s (x / 5 + (x % 5 - s)) (x % 5 - s) else 0
theorem pf_cnt_00 (bl s : Nat) : pf_cnt bl s 0 0 = if bl.testBit s = true then 0 else 1 := by
  have e : (pf_C s 0 0 &&& bl == 0) = !bl.testBit s := by
    have := pf_or0 0 bl s
    rw [Nat.zero_or, Nat.zero_and] at this
    rw [pf_C, this]
    rfl
  show pf_ct (pf_fq bl s 0 0) 1 = _
  rw [pf_ct, pf_ct, pf_fq, e]
  cases bl.testBit s <;> rfl
theorem pf_wv_lo (bl s x : Nat) (h : x % 5 < s) : pf_wv bl s x = 0 := if_neg (by omega)
theorem pf_wv_rec (bl s x : Nat) (hs : s < 5) : pf_wv bl s x = if bl.testBit x = true then 0 else
    ((if x = s then 1 else 0) + (if 5 ≤ x then pf_wv bl s (x - 5) else 0)) + (if 0 < x % 5 then pf_wv bl s (x - 1) else 0) := by
  by_cases hr : x % 5 < s
  · rw [pf_wv_lo bl s x hr, if_neg (show ¬ x = s by omega)]
    have h1 : (if 5 ≤ x then pf_wv bl s (x - 5) else 0) = 0 := by
      by_cases h : 5 ≤ x
      · rw [if_pos h]; exact pf_wv_lo bl s (x - 5) (by omega)
      · rw [if_neg h]
    have h2 : (if 0 < x % 5 then pf_wv bl s (x - 1) else 0) = 0 := by
      by_cases h : 0 < x % 5
      · rw [if_pos h]; exact pf_wv_lo bl s (x - 1) (by omega)
      · rw [if_neg h]
    rw [h1, h2]
    by_cases hb : bl.testBit x = true
    · rw [if_pos hb]
    · rw [if_neg hb]
  · by_cases hx : x = s
    · subst hx
      have h2 : (if 0 < x % 5 then pf_wv bl x (x - 1) else 0) = 0 := by
        by_cases h : 0 < x % 5
        · rw [if_pos h]; exact pf_wv_lo bl x (x - 1) (by omega)
        · rw [if_neg h]
      rw [h2, pf_wv, if_pos (by omega), if_pos rfl, if_neg (show ¬ 5 ≤ x by omega), show x / 5 + (x % 5 - x) = 0 by omega, show x % 5 - x = 0 by omega, pf_cnt_00]
    · obtain ⟨n, hn⟩ : ∃ n, x / 5 + (x % 5 - s) = n + 1 := ⟨x / 5 + (x % 5 - s) - 1, by omega⟩
      rw [pf_wv, if_pos (by omega), hn, pf_cnt_s, show s + (x % 5 - s) + 5 * (n + 1 - (x % 5 - s)) = x by omega, if_neg hx, Nat.zero_add]
      have h1 : pf_cnt bl s n (x % 5 - s) = (if 5 ≤ x then pf_wv bl s (x - 5) else 0) := by
        by_cases h : 5 ≤ x
        · rw [if_pos h, pf_wv, show (x - 5) % 5 = x % 5 by omega, if_pos (by omega), show (x - 5) / 5 + (x % 5 - s) = n by omega]
        · rw [if_neg h, pf_cnt_big bl s n _ (by omega)]
      have h2 : (if 0 < x % 5 - s then pf_cnt bl s n (x % 5 - s - 1) else 0) = (if 0 < x % 5 then pf_wv bl s (x - 1) else 0) := by
        by_cases h : 0 < x % 5 - s
        · rw [if_pos h, if_pos (by omega), pf_wv, show (x - 1) % 5 = x % 5 - 1 by omega, if_pos (by omega), show (x - 1) / 5 + (x % 5 - 1 - s) = n by omega, show x % 5 - 1 - s = x % 5 - s - 1 by omega]
        · rw [if_neg h]
          by_cases h0 : 0 < x % 5
          · rw [if_pos h0, pf_wv_lo bl s (x - 1) (by omega)]
          · rw [if_neg h0]
      rw [h1, h2]
