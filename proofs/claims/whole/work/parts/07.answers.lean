/-! the member with so many lesser ones -/
def pf_sel (k : Int32) : List Nat → Nat → Int32
  | [], _ => -4
  | x :: l, j => if nI j = k then nI x else pf_sel k l (j + 1)
theorem pf_sel_at : ∀ (l : List Nat) (j i : Nat), i < l.length → j + i < 2 ^ 31 → pf_sel (nI (j + i)) l j = nI (l.getD i 0) := by
  intro l
  induction l with
  | nil => intro j i h; exact absurd h (Nat.not_lt_zero _)
  | cons x l ih =>
    intro j i h hj
    rw [pf_sel]
    cases i with
    | zero => rw [Nat.add_zero, if_pos rfl]; rfl
    | succ i =>
      rw [if_neg (fun e => by have := (nI_eq (by omega) hj).mp e; omega)]
      have := ih (j + 1) i (by simpa using h) (by omega)
      rw [show j + 1 + i = j + (i + 1) by omega] at this
      rw [this]
      rfl
/-! products -/
def pf_xp (w : Nat → Int32) (m : Nat) : Nat → Int32
  | 0 => 1
  | n + 1 => if m.testBit n = true then pf_xp w m n * w n else pf_xp w m n
def pf_lp (w : Nat → Int32) : List Nat → Int32
  | [] => 1
  | x :: l => pf_lp w l * w x
theorem pf_xp_add (w : Nat → Int32) (m x : Nat) (h : m.testBit x = false) : ∀ N, pf_xp w (2 ^ x ||| m) N = if x < N then pf_xp w m N * w x else pf_xp w m N := by
  intro N
  induction N with
  | zero => rw [if_neg (Nat.not_lt_zero _)]; rfl
  | succ N ih =>
    rw [pf_xp, pf_xp, Nat.testBit_or, Nat.testBit_two_pow, ih]
    by_cases hx : x = N
    · subst hx
      rw [decide_eq_true rfl, Bool.true_or, if_pos rfl, if_neg (Nat.lt_irrefl _), if_pos (Nat.lt_succ_self _), h, if_neg (by decide)]
    · rw [decide_eq_false hx, Bool.false_or]
      by_cases hl : x < N
      · rw [if_pos hl, if_pos (Nat.lt_succ_of_lt hl)]
        by_cases hb : m.testBit N = true
        · rw [if_pos hb, if_pos hb, Int32.mul_assoc, Int32.mul_assoc, Int32.mul_comm (w x)]
        · rw [if_neg hb, if_neg hb]
      · rw [if_neg hl, if_neg (show ¬ x < N + 1 by omega)]
theorem pf_xp_0 (w : Nat → Int32) : ∀ N, pf_xp w 0 N = 1 := by
  intro N
  induction N with
  | zero => rfl
  | succ N ih => rw [pf_xp, Nat.zero_testBit, if_neg (by decide), ih]
theorem pf_xp_lp (w : Nat → Int32) (N : Nat) : ∀ l : List Nat, l.Nodup → (∀ x, x ∈ l → x < N) → pf_xp w (pf_mask l) N = pf_lp w l := by
  intro l
  induction l with
  | nil => intro _ _; exact pf_xp_0 w N
  | cons x l ih =>
    intro hn hl
    rw [List.nodup_cons] at hn
    rw [pf_mask, pf_xp_add w _ x (by rw [pf_mask_bit]; exact decide_eq_false hn.1), if_pos (hl x (List.mem_cons_self ..)), ih hn.2 (fun y hy => hl y (List.mem_cons_of_mem _ hy)), pf_lp]
/-! counts -/
theorem pf_ct_le (f : Nat → Bool) : ∀ n, pf_ct f n ≤ n := by
  intro n
  induction n with
  | zero => exact Nat.le_refl _
  | succ n ih =>
    rw [pf_ct]
    by_cases h : f n = true
    · rw [if_pos h]; omega
    · rw [if_neg h]; omega
theorem pf_ct_all (f : Nat → Bool) : ∀ n, pf_ct f n = n ↔ ∀ k, k < n → f k = true := by
  intro n
  induction n with
  | zero => exact ⟨fun _ k hk => absurd hk (Nat.not_lt_zero _), fun _ => rfl⟩
  | succ n ih =>
    rw [pf_ct]
    have hle := pf_ct_le f n
    by_cases h : f n = true
    · rw [if_pos h]
      constructor
      · intro e k hk
        by_cases hkn : k = n
        · rw [hkn]; exact h
        · exact ih.mp (by omega) k (by omega)
      · intro e
        rw [ih.mpr (fun k hk => e k (by omega))]
    · rw [if_neg h]
      constructor
      · intro e; omega
      · intro e; exact absurd (e n (Nat.lt_succ_self _)) h
theorem pf_pb_ct (a : Nat) : ∀ n, pf_pb a n = pf_ct (fun x => a.testBit x) n := by
  intro n
  induction n with
  | zero => rfl
  | succ n ih => rw [pf_pb, pf_ct, ih, pf_tb]
def pf_an (M : Nat → Nat) : Nat → Nat
  | 0 => M 0
  | n + 1 => pf_an M n &&& M (n + 1)
theorem pf_an_bit (M : Nat → Nat) (x : Nat) : ∀ n, (pf_an M n).testBit x = true ↔ ∀ f, f < n + 1 → (M f).testBit x = true := by
  intro n
  induction n with
  | zero =>
    constructor
    · intro h f hf
      rw [show f = 0 by omega]; exact h
    · intro h; exact h 0 (by omega)
  | succ n ih =>
    rw [pf_an, Nat.testBit_and, Bool.and_eq_true, ih]
    constructor
    · intro h f hf
      by_cases e : f = n + 1
      · rw [e]; exact h.2
      · exact h.1 f (by omega)
    · intro h
      exact ⟨fun f hf => h f (by omega), h _ (by omega)⟩
theorem pf_musts (M : Nat → Nat) (n : Nat) : pf_pb (pf_an M n) 30 = pf_ct (fun x => decide (pf_ct (fun f => (M f).testBit x) (n + 1) = n + 1)) 30 := by
  rw [pf_pb_ct]
  apply pf_ct_congr
  intro x _
  rw [Bool.eq_iff_iff, pf_an_bit, decide_eq_true_iff, pf_ct_all]
theorem pf_an_lt (M : Nat → Nat) (h : M 0 < 2 ^ 30) : ∀ n, pf_an M n < 2 ^ 30 := by
  intro n
  induction n with
  | zero => exact h
  | succ n ih => rw [pf_an]; exact Nat.lt_of_le_of_lt Nat.and_le_left ih
theorem pf_has1 (m a : Nat) : m &&& 2 ^ a = 2 ^ a ↔ m.testBit a = true := by
  constructor
  · intro h
    have e : (m &&& 2 ^ a).testBit a = true := by rw [h, Nat.testBit_two_pow]; exact decide_eq_true rfl
    rw [Nat.testBit_and, Bool.and_eq_true] at e
    exact e.1
  · intro h
    apply Nat.eq_of_testBit_eq
    intro x
    rw [Nat.testBit_and, Nat.testBit_two_pow]
    by_cases e : a = x
    · subst e; rw [h]; rfl
    · rw [decide_eq_false e, Bool.and_false]
theorem pf_has2 (m a b : Nat) : m &&& (2 ^ a ||| 2 ^ b) = (2 ^ a ||| 2 ^ b) ↔ m.testBit a = true ∧ m.testBit b = true := by
  constructor
  · intro h
    have e : ∀ x, (2 ^ a ||| 2 ^ b).testBit x = true → m.testBit x = true := by
      intro x hx
      rw [← h, Nat.testBit_and, Bool.and_eq_true] at hx
      exact hx.1
    exact ⟨e a (by rw [Nat.testBit_or, Nat.testBit_two_pow, decide_eq_true rfl, Bool.true_or]), e b (by rw [Nat.testBit_or, Nat.testBit_two_pow, Nat.testBit_two_pow, decide_eq_true (rfl : b = b), Bool.or_true])⟩
  · intro h
    rw [Nat.and_or_distrib_left, (pf_has1 m a).mpr h.1, (pf_has1 m b).mpr h.2]
/-! a walk's cells by its paths -/
theorem pf_own_mem (i x : Nat) (S : List (Nat × Nat)) : x ∈ pf_own i S ↔ (x, i) ∈ S := by
  rw [pf_own, List.mem_map]
  constructor
  · rintro ⟨p, hp, rfl⟩
    rw [List.mem_filter] at hp
    have : p.2 = i := by simpa using hp.2
    rw [← this]
    exact hp.1
  · intro h
    exact ⟨(x, i), List.mem_filter.mpr ⟨h, by simp⟩, rfl⟩
theorem pf_mk4 (S : List (Nat × Nat)) (h : ∀ p, p ∈ S → p.2 < 4) : pf_mk 0 S ||| pf_mk 1 S ||| pf_mk 2 S ||| pf_mk 3 S = pf_ms S := by
  apply Nat.eq_of_testBit_eq
  intro x
  rw [Nat.testBit_or, Nat.testBit_or, Nat.testBit_or, pf_ms_mask, pf_mk, pf_mk, pf_mk, pf_mk, pf_mask_bit, pf_mask_bit, pf_mask_bit, pf_mask_bit, pf_mask_bit, Bool.eq_iff_iff]
  simp only [Bool.or_eq_true, decide_eq_true_eq, pf_own_mem, List.mem_map]
  constructor
  · rintro (((h | h) | h) | h)
    · exact ⟨_, h, rfl⟩
    · exact ⟨_, h, rfl⟩
    · exact ⟨_, h, rfl⟩
    · exact ⟨_, h, rfl⟩
  · rintro ⟨p, hp, rfl⟩
    obtain ⟨y, j⟩ := p
    have hj : j < 4 := h _ hp
    have : j = 0 ∨ j = 1 ∨ j = 2 ∨ j = 3 := by omega
    rcases this with e | e | e | e
    · subst e; exact Or.inl (Or.inl (Or.inl hp))
    · subst e; exact Or.inl (Or.inl (Or.inr hp))
    · subst e; exact Or.inl (Or.inr hp)
    · subst e; exact Or.inr hp
/-! the arrays of the families -/
def pf_Fam (E : List (List Nat)) (fp fc : Nat → Int32) : Prop :=
  ∀ (f a b c d : Nat), E[f]? = some [d, c, b, a] → fp (4 * f) = nI a ∧ fp (4 * f + 1) = nI b ∧ fp (4 * f + 2) = nI c ∧ fp (4 * f + 3) = nI d ∧ fc f = nI (a ||| b ||| c ||| d)
theorem pf_Fam_0 (fp fc : Nat → Int32) : pf_Fam [] fp fc := by
  intro f a b c d h
  simp at h
theorem pf_Fam_s {E : List (List Nat)} {fp fc : Nat → Int32} (h : pf_Fam E fp fc) (a b c d : Nat) :
    pf_Fam (E ++ [[d, c, b, a]]) (upd (upd (upd (upd fp (4 * E.length) (nI a)) (4 * E.length + 1) (nI b)) (4 * E.length + 2) (nI c)) (4 * E.length + 3) (nI d)) (upd fc E.length (nI (a ||| b ||| c ||| d))) := by
  intro f a' b' c' d' e
  by_cases hf : f < E.length
  · rw [List.getElem?_append_left hf] at e
    obtain ⟨h1, h2, h3, h4, h5⟩ := h f a' b' c' d' e
    refine ⟨?_, ?_, ?_, ?_, ?_⟩
    · rw [pk_un (by omega), pk_un (by omega), pk_un (by omega), pk_un (by omega)]; exact h1
    · rw [pk_un (by omega), pk_un (by omega), pk_un (by omega), pk_un (by omega)]; exact h2
    · rw [pk_un (by omega), pk_un (by omega), pk_un (by omega), pk_un (by omega)]; exact h3
    · rw [pk_un (by omega), pk_un (by omega), pk_un (by omega), pk_un (by omega)]; exact h4
    · rw [pk_un (by omega)]; exact h5
  · rw [List.getElem?_append_right (by omega)] at e
    have e0 : f - E.length = 0 := by
      cases hk : f - E.length with
      | zero => rfl
      | succ k => rw [hk] at e; simp at e
    rw [e0] at e
    have ef : f = E.length := by omega
    subst ef
    simp at e
    obtain ⟨rfl, rfl, rfl, rfl⟩ := e
    refine ⟨?_, ?_, ?_, ?_, ?_⟩
    · rw [pk_un (by omega), pk_un (by omega), pk_un (by omega), pk_us]
    · rw [pk_un (by omega), pk_un (by omega), pk_us]
    · rw [pk_un (by omega), pk_us]
    · rw [pk_us]
    · rw [pk_us]
/-! the stack in the walker's arrays -/
def pf_rep (w o t : Nat → Int32) : List (Nat × Nat × Nat) → Prop
  | [] => True
  | p :: S => w S.length = nI p.1 ∧ o S.length = nI p.2.1 ∧ t S.length = nI p.2.2 ∧ pf_rep w o t S
theorem pf_rep_fr {w o t w' o' t' : Nat → Int32} : ∀ S : List (Nat × Nat × Nat), (∀ k, k < S.length → w' k = w k ∧ o' k = o k ∧ t' k = t k) → pf_rep w o t S → pf_rep w' o' t' S := by
  intro S
  induction S with
  | nil => intro _ _; trivial
  | cons p S ih =>
    intro h hr
    obtain ⟨h1, h2, h3, h4⟩ := hr
    obtain ⟨k1, k2, k3⟩ := h S.length (by simp)
    exact ⟨k1.trans h1, k2.trans h2, k3.trans h3, ih (fun k hk => h k (by simp; omega)) h4⟩
def pf_tk (S : List (Nat × Nat × Nat)) (tk : Nat → Int32) : Prop := ∀ x, x < 30 → tk x = if (pf_ms (pf_st S)).testBit x = true then 1 else 0
def pf_bk (bl : Nat) (b : Nat → Int32) : Prop := ∀ x, x < 30 → b x = if bl.testBit x = true then 1 else 0
