/-! bits of nI -/
theorem pf_or (a b : Nat) : nI a ||| nI b = nI (a ||| b) := by
  apply Int32.toBitVec_inj.1
  show BitVec.ofNat 32 a ||| BitVec.ofNat 32 b = BitVec.ofNat 32 (a ||| b)
  apply BitVec.eq_of_getLsbD_eq
  intro i hi
  simp [hi]
theorem pf_bit {m n : Nat} (hm : m < 2 ^ 31) (hn : n < 32) : (nI m >>> (nI n &&& 31)) &&& 1 = nI (m / 2 ^ n % 2) := by
  have h2 : m / 2 ^ n ≤ m := Nat.div_le_self _ _
  rw [pk_shrN hm _ n (s_l n hn), pk_andN (by omega) 1 (by decide)]
theorem pf_one {n : Nat} (hn : n < 31) : (1 : Int32) <<< (nI n &&& 31) = nI (2 ^ n) := by
  have h : 2 ^ n < 2 ^ 31 := Nat.pow_lt_pow_right (by decide) hn
  have e := pk_shlN (n := 1) (nI n &&& 31) n (s_l n (by omega)) (by omega)
  rw [Nat.one_mul] at e
  exact e
theorem pf_tb (m n : Nat) : m / 2 ^ n % 2 = if m.testBit n = true then 1 else 0 := by
  rw [Nat.testBit_eq_decide_div_mod_eq]
  generalize m / 2 ^ n = z
  by_cases h : z % 2 = 1
  · simp [h]
  · have : z % 2 = 0 := by omega
    simp [this]
/-! lists -/
theorem pf_fm_congr {α β : Type} (f g : α → List β) : ∀ l : List α, (∀ a, a ∈ l → f a = g a) → l.flatMap f = l.flatMap g := by
  intro l
  induction l with
  | nil => intro _; rfl
  | cons a l ih =>
    intro h
    rw [List.flatMap_cons, List.flatMap_cons, h a (List.mem_cons_self ..), ih (fun b hb => h b (List.mem_cons_of_mem _ hb))]
theorem pf_fm_nil {α β : Type} (f : α → List β) (l : List α) (h : ∀ a, a ∈ l → f a = []) : l.flatMap f = [] := by
  induction l with
  | nil => rfl
  | cons a l ih =>
    rw [List.flatMap_cons, h a (List.mem_cons_self ..), ih (fun b hb => h b (List.mem_cons_of_mem _ hb))]
    rfl
theorem pf_fm_map {α β γ : Type} (f : α → β) (g : β → List γ) (l : List α) : (l.map f).flatMap g = l.flatMap (fun a => g (f a)) := by
  induction l with
  | nil => rfl
  | cons a l ih => rw [List.map_cons, List.flatMap_cons, List.flatMap_cons, ih]
theorem pf_fm_filt {α β : Type} (p : α → Bool) (g : α → List β) (l : List α) : (l.filter p).flatMap g = l.flatMap (fun a => if p a = true then g a else []) := by
  induction l with
  | nil => rfl
  | cons a l ih =>
    rw [List.flatMap_cons, ← ih, List.filter_cons]
    by_cases h : p a = true
    · rw [if_pos h, if_pos h, List.flatMap_cons]
    · rw [if_neg h, if_neg h, List.nil_append]
theorem pf_map_fm {α β γ : Type} (f : β → γ) (g : α → List β) (l : List α) : (l.flatMap g).map f = l.flatMap (fun a => (g a).map f) := by
  induction l with
  | nil => rfl
  | cons a l ih => rw [List.flatMap_cons, List.flatMap_cons, List.map_append, ih]
theorem pf_ite {α : Type} {a b : Prop} [Decidable a] [Decidable b] {x y x' y' : α} (h : a ↔ b) (hx : b → x = x') (hy : ¬ b → y = y') : (if a then x else y) = (if b then x' else y') := by
  by_cases hb : b
  · rw [if_pos hb, if_pos (h.mpr hb), hx hb]
  · rw [if_neg hb, if_neg (fun z => hb (h.mp z)), hy hb]
theorem pf_pig : ∀ (N : Nat) (l : List Nat), l.Nodup → (∀ x, x ∈ l → x < N) → l.length ≤ N := by
  intro N
  induction N with
  | zero =>
    intro l _ h
    cases l with
    | nil => exact Nat.le_refl _
    | cons a l => exact absurd (h a (List.mem_cons_self ..)) (Nat.not_lt_zero _)
  | succ N ih =>
    intro l hn h
    by_cases hN : N ∈ l
    · have h1 : (l.erase N).length ≤ N := ih _ (hn.erase N) (fun x hx => by
        have h2 := (List.Nodup.mem_erase_iff hn).mp hx
        have h3 := h x h2.2
        have h4 := h2.1
        omega)
      rw [List.length_erase_of_mem hN] at h1
      omega
    · have := ih l hn (fun x hx => by
        have h3 := h x hx
        have h4 : x ≠ N := fun e => hN (e ▸ hx)
        omega)
      omega
/-! masks -/
def pf_mask : List Nat → Nat
  | [] => 0
  | x :: l => 2 ^ x ||| pf_mask l
theorem pf_mask_bit (l : List Nat) (x : Nat) : (pf_mask l).testBit x = decide (x ∈ l) := by
  induction l with
  | nil => simp [pf_mask]
  | cons y l ih =>
    rw [pf_mask, Nat.testBit_or, Nat.testBit_two_pow, ih]
    by_cases h : y = x
    · subst h; simp
    · have h' : ¬ x = y := fun e => h e.symm
      simp [h, h']
theorem pf_and0 (a b : Nat) : a &&& b = 0 ↔ ∀ x, a.testBit x = true → b.testBit x = false := by
  constructor
  · intro h x ha
    have e : (a &&& b).testBit x = false := by rw [h]; exact Nat.zero_testBit x
    rw [Nat.testBit_and, ha, Bool.true_and] at e
    exact e
  · intro h
    apply Nat.eq_of_testBit_eq
    intro x
    rw [Nat.testBit_and, Nat.zero_testBit]
    cases ha : a.testBit x with
    | false => rfl
    | true => rw [h x ha]; rfl
theorem pf_dis (l : List Nat) (b : Nat) : pf_mask l &&& b = 0 ↔ ∀ x, x ∈ l → b.testBit x = false := by
  rw [pf_and0]
  constructor
  · intro h x hx
    exact h x (by rw [pf_mask_bit]; exact decide_eq_true hx)
  · intro h x hx
    rw [pf_mask_bit] at hx
    exact h x (of_decide_eq_true hx)
theorem pf_cons0 (x : Nat) (l : List Nat) (b : Nat) : pf_mask (x :: l) &&& b = 0 ↔ b.testBit x = false ∧ pf_mask l &&& b = 0 := by
  rw [pf_dis, pf_dis]
  constructor
  · intro h
    exact ⟨h x (List.mem_cons_self ..), fun y hy => h y (List.mem_cons_of_mem _ hy)⟩
  · intro h y hy
    rcases List.mem_cons.mp hy with e | e
    · rw [e]; exact h.1
    · exact h.2 y e
theorem pf_mask_lt (l : List Nat) (h : ∀ x, x ∈ l → x < 30) : pf_mask l < 2 ^ 30 := by
  induction l with
  | nil => decide
  | cons x l ih =>
    rw [pf_mask]
    exact Nat.or_lt_two_pow (Nat.pow_lt_pow_right (by decide) (h x (List.mem_cons_self ..))) (ih (fun y hy => h y (List.mem_cons_of_mem _ hy)))
theorem pf_mask_ext (l l' : List Nat) (h : ∀ x, x ∈ l ↔ x ∈ l') : pf_mask l = pf_mask l' := by
  apply Nat.eq_of_testBit_eq
  intro x
  rw [pf_mask_bit, pf_mask_bit]
  exact decide_eq_decide.mpr (h x)
/-! the paths of a free board, in their order -/
def pf_P : Nat → Nat → Nat → List (List Nat)
  | 0, _, _ => []
  | n + 1, x, g => if x = g then [[x]] else
      (if x < 25 then (pf_P n (x + 5) g).map (fun p => x :: p) else []) ++
      (if x % 5 < g % 5 then (pf_P n (x + 1) g).map (fun p => x :: p) else [])
theorem pf_P_hd : ∀ (n x g : Nat) (p : List Nat), p ∈ pf_P n x g → ∃ q : List Nat, p = x :: q ∧ ∀ y, y ∈ q → x < y := by
  intro n
  induction n with
  | zero => intro x g p hp; simp [pf_P] at hp
  | succ n ih =>
    intro x g p hp
    rw [pf_P] at hp
    by_cases hg : x = g
    · rw [if_pos hg] at hp
      refine ⟨[], List.mem_singleton.mp hp, fun y hy => ?_⟩
      simp at hy
    · rw [if_neg hg, List.mem_append] at hp
      rcases hp with hp | hp
      · by_cases h25 : x < 25
        · rw [if_pos h25, List.mem_map] at hp
          obtain ⟨q, hq, rfl⟩ := hp
          refine ⟨q, rfl, fun y hy => ?_⟩
          obtain ⟨q', e, hq'⟩ := ih _ _ _ hq
          rw [e] at hy
          rcases List.mem_cons.mp hy with e | e
          · omega
          · have := hq' y e
            omega
        · rw [if_neg h25] at hp
          simp at hp
      · by_cases h5 : x % 5 < g % 5
        · rw [if_pos h5, List.mem_map] at hp
          obtain ⟨q, hq, rfl⟩ := hp
          refine ⟨q, rfl, fun y hy => ?_⟩
          obtain ⟨q', e, hq'⟩ := ih _ _ _ hq
          rw [e] at hy
          rcases List.mem_cons.mp hy with e | e
          · omega
          · have := hq' y e
            omega
        · rw [if_neg h5] at hp
          simp at hp
/-! walks: stacks of (cell, path), the top first -/
def pf_ms : List (Nat × Nat) → Nat
  | [] => 0
  | p :: S => 2 ^ p.1 ||| pf_ms S
theorem pf_ms_mask (S : List (Nat × Nat)) : pf_ms S = pf_mask (S.map (fun p => p.1)) := by
  induction S with
  | nil => rfl
  | cons p S ih => rw [List.map_cons, pf_ms, pf_mask, ih]
def pf_push (i : Nat) : List Nat → List (Nat × Nat) → List (Nat × Nat)
  | [], S => S
  | x :: p, S => pf_push i p ((x, i) :: S)
def pf_ex (bl g i : Nat) (K : List (Nat × Nat) → List (List (Nat × Nat))) : Nat → Nat → List (Nat × Nat) → List (List (Nat × Nat))
  | 0, _, _ => []
  | n + 1, x, S => if bl.testBit x = true ∨ (pf_ms S).testBit x = true then [] else
      if x = g then K ((x, i) :: S) else
      (if x < 25 then pf_ex bl g i K n (x + 5) ((x, i) :: S) else []) ++
      (if x % 5 < g % 5 then pf_ex bl g i K n (x + 1) ((x, i) :: S) else [])
theorem pf_ex_sub (bl i x : Nat) (S : List (Nat × Nat)) (K : List (Nat × Nat) → List (List (Nat × Nat))) (hb : bl.testBit x = false) (hs : (pf_ms S).testBit x = false) (l : List (List Nat)) (hl : ∀ p, p ∈ l → ∀ y, y ∈ p → x < y) :
    l.flatMap (fun p => if pf_mask p &&& bl = 0 ∧ pf_mask p &&& pf_ms ((x, i) :: S) = 0 then K (pf_push i p ((x, i) :: S)) else []) =
    (l.map (fun p => x :: p)).flatMap (fun p => if pf_mask p &&& bl = 0 ∧ pf_mask p &&& pf_ms S = 0 then K (pf_push i p S) else []) := by
  rw [pf_fm_map]
  apply pf_fm_congr
  intro p hp
  apply pf_ite
  · rw [pf_cons0, pf_cons0]
    have e : pf_mask p &&& pf_ms ((x, i) :: S) = 0 ↔ pf_mask p &&& pf_ms S = 0 := by
      rw [pf_dis, pf_dis]
      constructor
      · intro h y hy
        have := h y hy
        rw [pf_ms, Nat.testBit_or, Bool.or_eq_false_iff] at this
        exact this.2
      · intro h y hy
        rw [pf_ms, Nat.testBit_or, Bool.or_eq_false_iff, Nat.testBit_two_pow]
        have := hl p hp y hy
        exact ⟨decide_eq_false (show ¬ x = y by omega), h y hy⟩
    rw [e]
    exact ⟨fun h => ⟨⟨hb, h.1⟩, hs, h.2⟩, fun h => ⟨h.1.2, h.2.2⟩⟩
  · intro _; rfl
  · intro _; rfl
theorem pf_ex_eq (bl g i : Nat) (K : List (Nat × Nat) → List (List (Nat × Nat))) : ∀ (n x : Nat) (S : List (Nat × Nat)),
    pf_ex bl g i K n x S = (pf_P n x g).flatMap (fun p => if pf_mask p &&& bl = 0 ∧ pf_mask p &&& pf_ms S = 0 then K (pf_push i p S) else []) := by
  intro n
  induction n with
  | zero => intro x S; rfl
  | succ n ih =>
    intro x S
    by_cases hB : bl.testBit x = true ∨ (pf_ms S).testBit x = true
    · rw [pf_ex, if_pos hB]
      symm
      apply pf_fm_nil
      intro p hp
      obtain ⟨q, rfl, _⟩ := pf_P_hd _ _ _ _ hp
      apply if_neg
      intro h
      rw [pf_cons0, pf_cons0] at h
      rcases hB with e | e
      · rw [h.1.1] at e; exact Bool.noConfusion e
      · rw [h.2.1] at e; exact Bool.noConfusion e
    · rw [pf_ex, if_neg hB]
      have hb : bl.testBit x = false := by
        cases e : bl.testBit x with
        | false => rfl
        | true => exact absurd (Or.inl e) hB
      have hs : (pf_ms S).testBit x = false := by
        cases e : (pf_ms S).testBit x with
        | false => rfl
        | true => exact absurd (Or.inr e) hB
      rw [pf_P]
      by_cases hg : x = g
      · rw [if_pos hg, if_pos hg, List.flatMap_cons, List.flatMap_nil, List.append_nil]
        symm
        apply if_pos
        rw [pf_cons0, pf_cons0]
        exact ⟨⟨hb, Nat.zero_and _⟩, hs, Nat.zero_and _⟩
      · rw [if_neg hg, if_neg hg, List.flatMap_append]
        have h1 : (if x < 25 then pf_ex bl g i K n (x + 5) ((x, i) :: S) else []) = (if x < 25 then (pf_P n (x + 5) g).map (fun p => x :: p) else []).flatMap (fun p => if pf_mask p &&& bl = 0 ∧ pf_mask p &&& pf_ms S = 0 then K (pf_push i p S) else []) := by
          by_cases h : x < 25
          · rw [if_pos h, if_pos h, ih]
            apply pf_ex_sub bl i x S K hb hs
            intro p hp y hy
            obtain ⟨q, rfl, hq⟩ := pf_P_hd _ _ _ _ hp
            rcases List.mem_cons.mp hy with e | e
            · omega
            · have := hq y e
              omega
          · rw [if_neg h, if_neg h]; rfl
        have h2 : (if x % 5 < g % 5 then pf_ex bl g i K n (x + 1) ((x, i) :: S) else []) = (if x % 5 < g % 5 then (pf_P n (x + 1) g).map (fun p => x :: p) else []).flatMap (fun p => if pf_mask p &&& bl = 0 ∧ pf_mask p &&& pf_ms S = 0 then K (pf_push i p S) else []) := by
          by_cases h : x % 5 < g % 5
          · rw [if_pos h, if_pos h, ih]
            apply pf_ex_sub bl i x S K hb hs
            intro p hp y hy
            obtain ⟨q, rfl, hq⟩ := pf_P_hd _ _ _ _ hp
            rcases List.mem_cons.mp hy with e | e
            · omega
            · have := hq y e
              omega
          · rw [if_neg h, if_neg h]; rfl
        rw [h1, h2]
def pf_F (bl : Nat) (s g : Nat → Nat) : Nat → Nat → List (Nat × Nat) → List (List (Nat × Nat))
  | 0, _, S => [S]
  | m + 1, i, S => pf_ex bl (25 + g i) i (fun S' => pf_F bl s g m (i + 1) S') 10 (s i) S
