/-! the same list by nested loops over the lists of paths -/
def pf_H (bl : Nat) (PL : Nat → List (List Nat)) : Nat → Nat → List (Nat × Nat) → List (List (Nat × Nat))
  | 0, _, S => [S]
  | m + 1, i, S => (PL i).flatMap (fun p => if pf_mask p &&& bl = 0 ∧ pf_mask p &&& pf_ms S = 0 then pf_H bl PL m (i + 1) (pf_push i p S) else [])
def pf_PL (s g : Nat → Nat) (c i : Nat) : List (List Nat) := if i < c then pf_P 10 (s i) (25 + g i) else [[]]
theorem pf_F_H (bl : Nat) (s g : Nat → Nat) (c : Nat) : ∀ (m i : Nat) (S : List (Nat × Nat)), i + m ≤ c → pf_F bl s g m i S = pf_H bl (pf_PL s g c) m i S := by
  intro m
  induction m with
  | zero => intro i S _; rfl
  | succ m ih =>
    intro i S hi
    rw [pf_F, pf_ex_eq, pf_H, pf_PL, if_pos (by omega)]
    apply pf_fm_congr
    intro p _
    apply pf_ite Iff.rfl
    · intro _
      exact ih (i + 1) _ (by omega)
    · intro _; rfl
theorem pf_H_e (bl : Nat) (s g : Nat → Nat) (c : Nat) : ∀ (e i : Nat) (S : List (Nat × Nat)), c ≤ i → pf_H bl (pf_PL s g c) e i S = [S] := by
  intro e
  induction e with
  | zero => intro i S _; rfl
  | succ e ih =>
    intro i S hi
    rw [pf_H, pf_PL, if_neg (by omega), List.flatMap_cons, List.flatMap_nil, List.append_nil, if_pos ⟨Nat.zero_and _, Nat.zero_and _⟩]
    exact ih (i + 1) S (by omega)
theorem pf_H_pad (bl : Nat) (s g : Nat → Nat) (c e : Nat) : ∀ (m i : Nat) (S : List (Nat × Nat)), i + m = c → pf_H bl (pf_PL s g c) (m + e) i S = pf_H bl (pf_PL s g c) m i S := by
  intro m
  induction m with
  | zero =>
    intro i S hi
    rw [Nat.zero_add, pf_H_e bl s g c e i S (by omega)]
    rfl
  | succ m ih =>
    intro i S hi
    rw [show m + 1 + e = (m + e) + 1 by omega, pf_H, pf_H]
    apply pf_fm_congr
    intro p _
    apply pf_ite Iff.rfl
    · intro _
      exact ih (i + 1) _ (by omega)
    · intro _; rfl
theorem pf_F_H4 (bl : Nat) (s g : Nat → Nat) (c : Nat) (hc : c ≤ 4) : pf_F bl s g c 0 [] = pf_H bl (pf_PL s g c) 4 0 [] := by
  rw [pf_F_H bl s g c c 0 [] (by omega), ← pf_H_pad bl s g c (4 - c) c 0 [] (by omega), show c + (4 - c) = 4 by omega]
/-! in masks -/
def pf_own (i : Nat) (S : List (Nat × Nat)) : List Nat := (S.filter (fun p => p.2 == i)).map (fun p => p.1)
def pf_mk (i : Nat) (S : List (Nat × Nat)) : Nat := pf_mask (pf_own i S)
def pf_mks : Nat → List (Nat × Nat) → List Nat
  | 0, _ => []
  | i + 1, S => pf_mk i S :: pf_mks i S
def pf_G (Q : Nat → List Nat) : Nat → Nat → Nat → List Nat → List (List Nat)
  | 0, _, _, l => [l]
  | m + 1, i, a, l => (Q i).flatMap (fun b => if a &&& b = 0 then pf_G Q m (i + 1) (a ||| b) (b :: l) else [])
def pf_Q (bl : Nat) (s g : Nat → Nat) (c i : Nat) : List Nat := ((pf_PL s g c i).map pf_mask).filter (fun m => m &&& bl == 0)
theorem pf_push_eq (i : Nat) : ∀ (p : List Nat) (S : List (Nat × Nat)), pf_push i p S = (p.reverse.map (fun x => (x, i))) ++ S := by
  intro p
  induction p with
  | nil => intro S; rfl
  | cons x p ih =>
    intro S
    rw [pf_push, ih, List.reverse_cons, List.map_append, List.append_assoc]
    rfl
theorem pf_push_ms (i : Nat) : ∀ (p : List Nat) (S : List (Nat × Nat)), pf_ms (pf_push i p S) = pf_ms S ||| pf_mask p := by
  intro p
  induction p with
  | nil => intro S; rw [pf_push, pf_mask, Nat.or_zero]
  | cons x p ih =>
    intro S
    rw [pf_push, ih, pf_ms, pf_mask]
    show (2 ^ x ||| pf_ms S) ||| pf_mask p = _
    rw [Nat.or_comm (2 ^ x) (pf_ms S), Nat.or_assoc]
theorem pf_own_app (j : Nat) (S S' : List (Nat × Nat)) : pf_own j (S ++ S') = pf_own j S ++ pf_own j S' := by
  rw [pf_own, List.filter_append, List.map_append]
  rfl
theorem pf_own_map (i : Nat) : ∀ l : List Nat, pf_own i (l.map (fun x => (x, i))) = l := by
  intro l
  induction l with
  | nil => rfl
  | cons x l ih =>
    have e : pf_own i ((x :: l).map (fun x => (x, i))) = x :: pf_own i (l.map (fun x => (x, i))) := by
      simp [pf_own]
    rw [e, ih]
theorem pf_own_none (i : Nat) : ∀ S : List (Nat × Nat), (∀ p, p ∈ S → p.2 ≠ i) → pf_own i S = [] := by
  intro S h
  rw [pf_own, List.filter_eq_nil_iff.mpr]
  · rfl
  · intro p hp e
    exact h p hp (by simpa using e)
theorem pf_own_push (i : Nat) (p : List Nat) (S : List (Nat × Nat)) (h : ∀ q, q ∈ S → q.2 < i) : pf_own i (pf_push i p S) = p.reverse := by
  rw [pf_push_eq, pf_own_app, pf_own_map, pf_own_none i S (fun q hq => by have := h q hq; omega), List.append_nil]
theorem pf_own_push_ne (i j : Nat) (p : List Nat) (S : List (Nat × Nat)) (h : j ≠ i) : pf_own j (pf_push i p S) = pf_own j S := by
  rw [pf_push_eq, pf_own_app, pf_own_none j, List.nil_append]
  intro q hq
  obtain ⟨x, _, rfl⟩ := List.mem_map.mp hq
  exact fun e => h e.symm
theorem pf_mks_push (i : Nat) (p : List Nat) (S : List (Nat × Nat)) : ∀ j, j ≤ i → pf_mks j (pf_push i p S) = pf_mks j S := by
  intro j
  induction j with
  | zero => intro _; rfl
  | succ j ih =>
    intro hj
    rw [pf_mks, pf_mks, pf_mk, pf_mk, pf_own_push_ne i j p S (by omega), ih (by omega)]
theorem pf_push_lt (i : Nat) (p : List Nat) (S : List (Nat × Nat)) (h : ∀ q, q ∈ S → q.2 < i) : ∀ q, q ∈ pf_push i p S → q.2 < i + 1 := by
  intro q hq
  rw [pf_push_eq, List.mem_append] at hq
  rcases hq with hq | hq
  · obtain ⟨x, _, rfl⟩ := List.mem_map.mp hq
    exact Nat.lt_succ_self _
  · have := h q hq
    omega
theorem pf_H_G (bl : Nat) (s g : Nat → Nat) (c : Nat) : ∀ (m i : Nat) (S : List (Nat × Nat)), (∀ q, q ∈ S → q.2 < i) →
    (pf_H bl (pf_PL s g c) m i S).map (pf_mks (i + m)) = pf_G (pf_Q bl s g c) m i (pf_ms S) (pf_mks i S) := by
  intro m
  induction m with
  | zero => intro i S _; rfl
  | succ m ih =>
    intro i S hS
    rw [pf_H, pf_G, pf_map_fm, pf_Q, pf_fm_filt, pf_fm_map]
    apply pf_fm_congr
    intro p _
    by_cases hb : pf_mask p &&& bl = 0
    · rw [if_pos (show (pf_mask p &&& bl == 0) = true by rw [hb]; rfl)]
      by_cases hd : pf_ms S &&& pf_mask p = 0
      · have hd' : pf_mask p &&& pf_ms S = 0 := by rw [Nat.and_comm]; exact hd
        rw [if_pos ⟨hb, hd'⟩, if_pos hd, show i + (m + 1) = (i + 1) + m by omega, ih (i + 1) _ (pf_push_lt i p S hS), pf_push_ms, pf_mks, pf_mks_push i p S i (Nat.le_refl _), pf_mk, pf_own_push i p S hS]
        rw [pf_mask_ext p.reverse p (fun x => List.mem_reverse)]
      · have hd' : ¬ pf_mask p &&& pf_ms S = 0 := by rw [Nat.and_comm]; exact hd
        rw [if_neg (fun z => hd' z.2), if_neg hd]
        rfl
    · rw [if_neg (show ¬ (pf_mask p &&& bl == 0) = true by simpa using hb), if_neg (fun z => hb z.1)]
      rfl
theorem pf_F_G (bl : Nat) (s g : Nat → Nat) (c : Nat) (hc : c ≤ 4) : (pf_F bl s g c 0 []).map (pf_mks 4) = pf_G (pf_Q bl s g c) 4 0 0 [] := by
  rw [pf_F_H4 bl s g c hc]
  exact pf_H_G bl s g c 4 0 [] (fun q hq => absurd hq (by simp))
/-! how many there can be -/
def pf_sumf (f : Nat → Nat) : List Nat → Nat
  | [] => 0
  | b :: l => f b + pf_sumf f l
def pf_N (Q : Nat → List Nat) : Nat → Nat → Nat → Nat
  | 0, _, _ => 1
  | m + 1, i, a => pf_sumf (fun b => if a &&& b = 0 then pf_N Q m (i + 1) (a ||| b) else 0) (Q i)
theorem pf_fm_len {β : Type} (f : Nat → List β) (h : Nat → Nat) (e : ∀ b, (f b).length = h b) : ∀ l : List Nat, (l.flatMap f).length = pf_sumf h l := by
  intro l
  induction l with
  | nil => rfl
  | cons b l ih => rw [List.flatMap_cons, List.length_append, ih, e, pf_sumf]
theorem pf_G_len (Q : Nat → List Nat) : ∀ (m i a : Nat) (l : List Nat), (pf_G Q m i a l).length = pf_N Q m i a := by
  intro m
  induction m with
  | zero => intro i a l; rfl
  | succ m ih =>
    intro i a l
    rw [pf_G, pf_N]
    apply pf_fm_len
    intro b
    by_cases h : a &&& b = 0
    · rw [if_pos h, if_pos h, ih]
    · rw [if_neg h, if_neg h]; rfl
theorem pf_sumf_le (f h : Nat → Nat) (p : Nat → Bool) (e : ∀ b, f b ≤ h b) : ∀ l : List Nat, pf_sumf f (l.filter p) ≤ pf_sumf h l := by
  intro l
  induction l with
  | nil => exact Nat.le_refl _
  | cons b l ih =>
    rw [List.filter_cons]
    have := e b
    by_cases hp : p b = true
    · rw [if_pos hp, pf_sumf, pf_sumf]; omega
    · rw [if_neg hp, pf_sumf]; omega
theorem pf_N_le (Q Q' : Nat → List Nat) (p : Nat → Bool) (hQ : ∀ i, Q i = (Q' i).filter p) : ∀ (m i a : Nat), pf_N Q m i a ≤ pf_N Q' m i a := by
  intro m
  induction m with
  | zero => intro i a; exact Nat.le_refl _
  | succ m ih =>
    intro i a
    rw [pf_N, pf_N, hQ]
    apply pf_sumf_le
    intro b
    by_cases h : a &&& b = 0
    · rw [if_pos h, if_pos h]; exact ih _ _
    · rw [if_neg h, if_neg h]; exact Nat.le_refl _
theorem pf_F_len (bl : Nat) (s g : Nat → Nat) (c : Nat) (hc : c ≤ 4) : (pf_F bl s g c 0 []).length ≤ pf_N (fun i => (pf_PL s g c i).map pf_mask) 4 0 0 := by
  have h : ((pf_F bl s g c 0 []).map (pf_mks 4)).length = (pf_F bl s g c 0 []).length := List.length_map _
  rw [← h, pf_F_G bl s g c hc, pf_G_len]
  exact pf_N_le _ _ (fun m => m &&& bl == 0) (fun i => rfl) 4 0 0
