section
/-! rows pasted from kit/rows: stores, numbers, shifts, branches, loops -/
theorem pk_us {f : Nat → Int32} {k : Nat} {x : Int32} : upd f k x k = x := if_pos rfl
theorem pk_un {f : Nat → Int32} {k j : Nat} {x : Int32} (h : j ≠ k) : upd f k x j = f j := if_neg h
theorem pk_sub {a b : Nat} (h : b ≤ a) : nI a - nI b = nI (a - b) := by
  obtain ⟨c, rfl⟩ : ∃ c, a = c + b := ⟨a - b, by omega⟩
  rw [← nI_add, Int32.add_sub_cancel, Nat.add_sub_cancel]
theorem pk_m1 (n : Nat) : nI (n + 1) + (-1) = nI n := by
  rw [← nI_1, Int32.add_assoc, show (1 : Int32) + (-1) = 0 from rfl, Int32.add_zero]
theorem pk_mul (a b : Nat) : nI a * nI b = nI (a * b) := (Int32.ofNat_mul a b).symm
theorem pk_div {a d : Nat} (ha : a < 2 ^ 31) (h0 : 0 < d) (hd : d < 2 ^ 31) : nI a / nI d = nI (a / d) := by
  apply Int32.toInt_inj.mp
  rw [lg_idiv_nonneg (by rw [nI_toInt ha]; omega) (by rw [nI_toInt hd]; omega), nI_toInt ha, nI_toInt hd, nI_toInt (Nat.lt_of_le_of_lt (Nat.div_le_self a d) ha)]
  first | rfl | exact (Int.natCast_ediv _ _).symm
theorem pk_rem {a d : Nat} (ha : a < 2 ^ 31) (h0 : 0 < d) (hd : d < 2 ^ 31) : nI a - nI a / nI d * nI d = nI (a % d) := by
  rw [pk_div ha h0 hd, pk_mul, pk_sub (Nat.div_mul_le_self a d)]
  exact congrArg nI (by have := Nat.div_add_mod' a d; omega)
theorem pk_sub_toInt {a b : Nat} (ha : a < 2 ^ 30) (hb : b < 2 ^ 30) : (nI a - nI b).toInt = (a : Int) - b := by
  rw [Int32.toInt_sub, nI_toInt (by omega), nI_toInt (by omega)]
  exact Int.bmod_eq_of_le (by omega) (by omega)
theorem pk_sneg {a b : Nat} (hb : b < 2 ^ 30) (h : a < b) : nI a - nI b < 0 := by
  rw [Int32.lt_iff_toInt_lt, pk_sub_toInt (by omega) hb, show (0 : Int32).toInt = 0 from by decide]
  omega
theorem pk_ix (x : Int32) {n : Nat} (hn : n < 2 ^ 31) : x < 0 ∨ nI n ≤ x ∨ ∃ j : Nat, j < n ∧ x = nI j := by
  by_cases h : x < 0
  · exact Or.inl h
  · obtain ⟨j, hj, rfl⟩ := nI_of h
    by_cases h2 : j < n
    · exact Or.inr (Or.inr ⟨j, h2, rfl⟩)
    · exact Or.inr (Or.inl (nI_le (by omega) hj))
theorem pk_le {x y : Int32} {A B : Prop} (a b : Nat) (f : a ≤ b → A) (g : b < a → B) (hx : x = nI a := by rfl) (hy : y = nI b := by rfl) (ha : a < 2 ^ 31 := by omega) (hb : b < 2 ^ 31 := by omega) : (x ≤ y → A) ∧ (¬ x ≤ y → B) := by
  subst hx hy
  rw [nI_leI ha hb]
  exact ⟨f, fun z => g (by omega)⟩
theorem pk_lt {x y : Int32} {A B : Prop} (a b : Nat) (f : a < b → A) (g : b ≤ a → B) (hx : x = nI a := by rfl) (hy : y = nI b := by rfl) (ha : a < 2 ^ 31 := by omega) (hb : b < 2 ^ 31 := by omega) : (x < y → A) ∧ (¬ x < y → B) := by
  subst hx hy
  rw [nI_ltI ha hb]
  exact ⟨f, fun z => g (by omega)⟩
theorem pk_eq {x y : Int32} {A B : Prop} (a b : Nat) (f : a = b → A) (g : a ≠ b → B) (hx : x = nI a := by rfl) (hy : y = nI b := by rfl) (ha : a < 2 ^ 31 := by omega) (hb : b < 2 ^ 31 := by omega) : (x = y → A) ∧ (¬ x = y → B) := by
  subst hx hy
  rw [nI_eq ha hb]
  exact ⟨f, g⟩
theorem pk_in {x : Int32} (n N : Nat) (h : n < N) (hx : x = nI n := by rfl) (hN : N < 2 ^ 31 := by omega) : vp_in x N := by
  subst hx
  exact vp_in_nI h hN
theorem pk_cl {x : Int32} (n : Nat) (hx : x = nI n := by rfl) (h : n < 2 ^ 31 := by omega) : x.toNatClampNeg = n := by
  subst hx
  exact nI_clamp h
theorem pk_tn {n : Nat} (h : n < 2 ^ 32) : (nI n).toBitVec.toNat = n := Nat.mod_eq_of_lt h
theorem pk_and (x : Int32) {m : Int32} (k : Nat) (hm : m.toBitVec.toNat = 2 ^ k - 1) : x &&& m = nI (x.toBitVec.toNat % 2 ^ k) := by
  apply Int32.toBitVec_inj.mp
  apply BitVec.eq_of_toNat_eq
  rw [Int32.toBitVec_and, BitVec.toNat_and, hm, Nat.and_two_pow_sub_one_eq_mod]
  show _ = (BitVec.ofNat 32 _).toNat
  rw [BitVec.toNat_ofNat]
  exact (Nat.mod_eq_of_lt (Nat.lt_of_le_of_lt (Nat.mod_le _ _) x.toBitVec.isLt)).symm
theorem pk_andN {n : Nat} (h : n < 2 ^ 32) {m : Int32} (k : Nat) (hm : m.toBitVec.toNat = 2 ^ k - 1) : nI n &&& m = nI (n % 2 ^ k) := by
  rw [pk_and _ k hm, pk_tn h]
theorem pk_shl (a s : Int32) (k : Nat) (hs : (s.toBitVec.smod 32).toNat = k) : (a <<< s).toBitVec.toNat = a.toBitVec.toNat * 2 ^ k % 2 ^ 32 := by
  show (a.toBitVec <<< (s.toBitVec.smod 32).toNat).toNat = _
  rw [hs, BitVec.toNat_shiftLeft, Nat.shiftLeft_eq]
theorem pk_shlN {n : Nat} (s : Int32) (k : Nat) (hs : (s.toBitVec.smod 32).toNat = k) (h : n * 2 ^ k < 2 ^ 32) : nI n <<< s = nI (n * 2 ^ k) := by
  apply Int32.toBitVec_inj.mp
  apply BitVec.eq_of_toNat_eq
  have hn : n < 2 ^ 32 := Nat.lt_of_le_of_lt (Nat.le_mul_of_pos_right n (Nat.two_pow_pos k)) h
  rw [pk_shl _ _ k hs, pk_tn hn, pk_tn h, Nat.mod_eq_of_lt h]
theorem pk_shr (a s : Int32) (k : Nat) (hs : (s.toBitVec.smod 32).toNat = k) : (a >>> s).toInt = a.toInt >>> k := by
  show (a.toBitVec.sshiftRight (s.toBitVec.smod 32).toNat).toInt = _
  rw [hs, BitVec.toInt_sshiftRight]
  rfl
theorem pk_shrN {n : Nat} (h : n < 2 ^ 31) (s : Int32) (k : Nat) (hs : (s.toBitVec.smod 32).toNat = k) : nI n >>> s = nI (n / 2 ^ k) := by
  apply Int32.toInt_inj.mp
  have h2 : n / 2 ^ k ≤ n := Nat.div_le_self _ _
  rw [pk_shr _ _ k hs, nI_toInt h, nI_toInt (by omega), Int.shiftRight_eq_div_pow]
  rfl
theorem pk_loop {σ : Type} (W : Nat → Nat → σ → Prop) (I : Nat → σ → Prop) (e i0 : Nat) (s : σ) (hi : i0 ≤ e) (h0 : I i0 s) (hx : ∀ n s, I e s → W (n + 1) e s)
    (hs : ∀ n i s, i < e → I i s → (∀ s', I (i + 1) s' → W n (i + 1) s') → W (n + 1) i s) : ∃ n, W n i0 s :=
  ⟨e + 1, loop_i W I e hx hs (e + 1) i0 s hi (by omega) h0⟩
theorem pk_loopD {σ : Type} (W : Nat → Nat → σ → Prop) (I : Nat → σ → Prop) (hx : ∀ n s, I 0 s → W (n + 1) 0 s)
    (hs : ∀ n i s, I (i + 1) s → (∀ s', I i s' → W n i s') → W (n + 1) (i + 1) s) : ∀ (e : Nat) (s : σ), I e s → W (e + 1) e s := by
  intro e
  induction e with
  | zero => exact fun s h => hx 0 s h
  | succ e ih => exact fun s h => hs (e + 1) e s h (fun s' h' => ih s' h')
theorem s_l : ∀ n, n < 32 → ((nI n &&& 31).toBitVec.smod 32).toNat = n := by decide +kernel
theorem nx_and (a b : Nat) : nI a &&& nI b = nI (a &&& b) := by
  apply Int32.toBitVec_inj.1
  show BitVec.ofNat 32 a &&& BitVec.ofNat 32 b = BitVec.ofNat 32 (a &&& b)
  apply BitVec.eq_of_getLsbD_eq
  intro i hi
  simp [hi]
theorem nx_xor (a b : Nat) : nI a ^^^ nI b = nI (a ^^^ b) := by
  apply Int32.toBitVec_inj.1
  show BitVec.ofNat 32 a ^^^ BitVec.ofNat 32 b = BitVec.ofNat 32 (a ^^^ b)
  apply BitVec.eq_of_getLsbD_eq
  intro i hi
  simp [hi]
end
section
/-! bits of nI -/
theorem pf_or (a b : Nat) : nI a ||| nI b = nI (a ||| b) := by
  apply Int32.toBitVec_inj.1
  show BitVec.ofNat 32 a ||| BitVec.ofNat 32 b = BitVec.ofNat 32 (a ||| b)
  apply BitVec.eq_of_getLsbD_eq
  intro i hi
  simp [hi]
theorem pf_bit {m n : Nat} (hm : m < 2 ^ 31) (hn : n < 32) : (nI m >>> (nI n &&& 31)) &&& 1 = nI (m / 2 ^ n % 2) := by
  have h2 : m / 2 ^ n ≤ m := Nat.div_le_self _ _
  rw [pk_shrN hm _ n (s_l n hn), pk_andN (by omega) 1 (by decide)]
theorem pf_one {n : Nat} (hn : n < 31) : (1 : Int32) <<< (nI n &&& 31) = nI (2 ^ n) := by
  have h : 2 ^ n < 2 ^ 31 := Nat.pow_lt_pow_right (by decide) hn
  have e := pk_shlN (n := 1) (nI n &&& 31) n (s_l n (by omega)) (by omega)
  rw [Nat.one_mul] at e
  exact e
theorem pf_tb (m n : Nat) : m / 2 ^ n % 2 = if m.testBit n = true then 1 else 0 := by
  rw [Nat.testBit_eq_decide_div_mod_eq]
  generalize m / 2 ^ n = z
  by_cases h : z % 2 = 1
  · simp [h]
  · have : z % 2 = 0 := by omega
    simp [this]
/-! lists -/
theorem pf_fm_congr {α β : Type} (f g : α → List β) : ∀ l : List α, (∀ a, a ∈ l → f a = g a) → l.flatMap f = l.flatMap g := by
  intro l
  induction l with
  | nil => intro _; rfl
  | cons a l ih =>
    intro h
    rw [List.flatMap_cons, List.flatMap_cons, h a (List.mem_cons_self ..), ih (fun b hb => h b (List.mem_cons_of_mem _ hb))]
theorem pf_fm_nil {α β : Type} (f : α → List β) (l : List α) (h : ∀ a, a ∈ l → f a = []) : l.flatMap f = [] := by
  induction l with
  | nil => rfl
  | cons a l ih =>
    rw [List.flatMap_cons, h a (List.mem_cons_self ..), ih (fun b hb => h b (List.mem_cons_of_mem _ hb))]
    rfl
theorem pf_fm_map {α β γ : Type} (f : α → β) (g : β → List γ) (l : List α) : (l.map f).flatMap g = l.flatMap (fun a => g (f a)) := by
  induction l with
  | nil => rfl
  | cons a l ih => rw [List.map_cons, List.flatMap_cons, List.flatMap_cons, ih]
theorem pf_fm_filt {α β : Type} (p : α → Bool) (g : α → List β) (l : List α) : (l.filter p).flatMap g = l.flatMap (fun a => if p a = true then g a else []) := by
  induction l with
  | nil => rfl
  | cons a l ih =>
    rw [List.flatMap_cons, ← ih, List.filter_cons]
    by_cases h : p a = true
    · rw [if_pos h, if_pos h, List.flatMap_cons]
    · rw [if_neg h, if_neg h, List.nil_append]
theorem pf_map_fm {α β γ : Type} (f : β → γ) (g : α → List β) (l : List α) : (l.flatMap g).map f = l.flatMap (fun a => (g a).map f) := by
  induction l with
  | nil => rfl
  | cons a l ih => rw [List.flatMap_cons, List.flatMap_cons, List.map_append, ih]
theorem pf_ite {α : Type} {a b : Prop} [Decidable a] [Decidable b] {x y x' y' : α} (h : a ↔ b) (hx : b → x = x') (hy : ¬ b → y = y') : (if a then x else y) = (if b then x' else y') := by
  by_cases hb : b
  · rw [if_pos hb, if_pos (h.mpr hb), hx hb]
  · rw [if_neg hb, if_neg (fun z => hb (h.mp z)), hy hb]
theorem pf_pig : ∀ (N : Nat) (l : List Nat), l.Nodup → (∀ x, x ∈ l → x < N) → l.length ≤ N := by
  intro N
  induction N with
  | zero =>
    intro l _ h
    cases l with
    | nil => exact Nat.le_refl _
    | cons a l => exact absurd (h a (List.mem_cons_self ..)) (Nat.not_lt_zero _)
  | succ N ih =>
    intro l hn h
    by_cases hN : N ∈ l
    · have h1 : (l.erase N).length ≤ N := ih _ (hn.erase N) (fun x hx => by
        have h2 := (List.Nodup.mem_erase_iff hn).mp hx
        have h3 := h x h2.2
        have h4 := h2.1
        omega)
      rw [List.length_erase_of_mem hN] at h1
      omega
    · have := ih l hn (fun x hx => by
        have h3 := h x hx
        have h4 : x ≠ N := fun e => hN (e ▸ hx)
        omega)
      omega
/-! masks -/
def pf_mask : List Nat → Nat
  | [] => 0
  | x :: l => 2 ^ x ||| pf_mask l
theorem pf_mask_bit (l : List Nat) (x : Nat) : (pf_mask l).testBit x = decide (x ∈ l) := by
  induction l with
  | nil => simp [pf_mask]
  | cons y l ih =>
    rw [pf_mask, Nat.testBit_or, Nat.testBit_two_pow, ih]
    by_cases h : y = x
    · subst h; simp
    · have h' : ¬ x = y := fun e => h e.symm
      simp [h, h']
theorem pf_and0 (a b : Nat) : a &&& b = 0 ↔ ∀ x, a.testBit x = true → b.testBit x = false := by
  constructor
  · intro h x ha
    have e : (a &&& b).testBit x = false := by rw [h]; exact Nat.zero_testBit x
    rw [Nat.testBit_and, ha, Bool.true_and] at e
    exact e
  · intro h
    apply Nat.eq_of_testBit_eq
    intro x
    rw [Nat.testBit_and, Nat.zero_testBit]
    cases ha : a.testBit x with
    | false => rfl
    | true => rw [h x ha]; rfl
theorem pf_dis (l : List Nat) (b : Nat) : pf_mask l &&& b = 0 ↔ ∀ x, x ∈ l → b.testBit x = false := by
  rw [pf_and0]
  constructor
  · intro h x hx
    exact h x (by rw [pf_mask_bit]; exact decide_eq_true hx)
  · intro h x hx
    rw [pf_mask_bit] at hx
    exact h x (of_decide_eq_true hx)
theorem pf_cons0 (x : Nat) (l : List Nat) (b : Nat) : pf_mask (x :: l) &&& b = 0 ↔ b.testBit x = false ∧ pf_mask l &&& b = 0 := by
  rw [pf_dis, pf_dis]
  constructor
  · intro h
    exact ⟨h x (List.mem_cons_self ..), fun y hy => h y (List.mem_cons_of_mem _ hy)⟩
  · intro h y hy
    rcases List.mem_cons.mp hy with e | e
    · rw [e]; exact h.1
    · exact h.2 y e
theorem pf_mask_lt (l : List Nat) (h : ∀ x, x ∈ l → x < 30) : pf_mask l < 2 ^ 30 := by
  induction l with
  | nil => decide
  | cons x l ih =>
    rw [pf_mask]
    exact Nat.or_lt_two_pow (Nat.pow_lt_pow_right (by decide) (h x (List.mem_cons_self ..))) (ih (fun y hy => h y (List.mem_cons_of_mem _ hy)))
theorem pf_mask_ext (l l' : List Nat) (h : ∀ x, x ∈ l ↔ x ∈ l') : pf_mask l = pf_mask l' := by
  apply Nat.eq_of_testBit_eq
  intro x
  rw [pf_mask_bit, pf_mask_bit]
  exact decide_eq_decide.mpr (h x)
/-! the paths of a free board, in their order -/
def pf_P : Nat → Nat → Nat → List (List Nat)
  | 0, _, _ => []
  | n + 1, x, g => if x = g then [[x]] else
      (if x < 25 then (pf_P n (x + 5) g).map (fun p => x :: p) else []) ++
      (if x % 5 < g % 5 then (pf_P n (x + 1) g).map (fun p => x :: p) else [])
theorem pf_P_hd : ∀ (n x g : Nat) (p : List Nat), p ∈ pf_P n x g → ∃ q : List Nat, p = x :: q ∧ ∀ y, y ∈ q → x < y := by
  intro n
  induction n with
  | zero => intro x g p hp; simp [pf_P] at hp
  | succ n ih =>
    intro x g p hp
    rw [pf_P] at hp
    by_cases hg : x = g
    · rw [if_pos hg] at hp
      refine ⟨[], List.mem_singleton.mp hp, fun y hy => ?_⟩
      simp at hy
    · rw [if_neg hg, List.mem_append] at hp
      rcases hp with hp | hp
      · by_cases h25 : x < 25
        · rw [if_pos h25, List.mem_map] at hp
          obtain ⟨q, hq, rfl⟩ := hp
          refine ⟨q, rfl, fun y hy => ?_⟩
          obtain ⟨q', e, hq'⟩ := ih _ _ _ hq
          rw [e] at hy
          rcases List.mem_cons.mp hy with e | e
          · omega
          · have := hq' y e
            omega
        · rw [if_neg h25] at hp
          simp at hp
      · by_cases h5 : x % 5 < g % 5
        · rw [if_pos h5, List.mem_map] at hp
          obtain ⟨q, hq, rfl⟩ := hp
          refine ⟨q, rfl, fun y hy => ?_⟩
          obtain ⟨q', e, hq'⟩ := ih _ _ _ hq
          rw [e] at hy
          rcases List.mem_cons.mp hy with e | e
          · omega
          · have := hq' y e
            omega
        · rw [if_neg h5] at hp
          simp at hp
/-! walks: stacks of (cell, path), the top first -/
def pf_ms : List (Nat × Nat) → Nat
  | [] => 0
  | p :: S => 2 ^ p.1 ||| pf_ms S
theorem pf_ms_mask (S : List (Nat × Nat)) : pf_ms S = pf_mask (S.map (fun p => p.1)) := by
  induction S with
  | nil => rfl
  | cons p S ih => rw [List.map_cons, pf_ms, pf_mask, ih]
def pf_push (i : Nat) : List Nat → List (Nat × Nat) → List (Nat × Nat)
  | [], S => S
  | x :: p, S => pf_push i p ((x, i) :: S)
def pf_ex (bl g i : Nat) (K : List (Nat × Nat) → List (List (Nat × Nat))) : Nat → Nat → List (Nat × Nat) → List (List (Nat × Nat))
  | 0, _, _ => []
  | n + 1, x, S => if bl.testBit x = true ∨ (pf_ms S).testBit x = true then [] else
      if x = g then K ((x, i) :: S) else
      (if x < 25 then pf_ex bl g i K n (x + 5) ((x, i) :: S) else []) ++
      (if x % 5 < g % 5 then pf_ex bl g i K n (x + 1) ((x, i) :: S) else [])
theorem pf_ex_sub (bl i x : Nat) (S : List (Nat × Nat)) (K : List (Nat × Nat) → List (List (Nat × Nat))) (hb : bl.testBit x = false) (hs : (pf_ms S).testBit x = false) (l : List (List Nat)) (hl : ∀ p, p ∈ l → ∀ y, y ∈ p → x < y) :
    l.flatMap (fun p => if pf_mask p &&& bl = 0 ∧ pf_mask p &&& pf_ms ((x, i) :: S) = 0 then K (pf_push i p ((x, i) :: S)) else []) =
    (l.map (fun p => x :: p)).flatMap (fun p => if pf_mask p &&& bl = 0 ∧ pf_mask p &&& pf_ms S = 0 then K (pf_push i p S) else []) := by
  rw [pf_fm_map]
  apply pf_fm_congr
  intro p hp
  apply pf_ite
  · rw [pf_cons0, pf_cons0]
    have e : pf_mask p &&& pf_ms ((x, i) :: S) = 0 ↔ pf_mask p &&& pf_ms S = 0 := by
      rw [pf_dis, pf_dis]
      constructor
      · intro h y hy
        have := h y hy
        rw [pf_ms, Nat.testBit_or, Bool.or_eq_false_iff] at this
        exact this.2
      · intro h y hy
        rw [pf_ms, Nat.testBit_or, Bool.or_eq_false_iff, Nat.testBit_two_pow]
        have := hl p hp y hy
        exact ⟨decide_eq_false (show ¬ x = y by omega), h y hy⟩
    rw [e]
    exact ⟨fun h => ⟨⟨hb, h.1⟩, hs, h.2⟩, fun h => ⟨h.1.2, h.2.2⟩⟩
  · intro _; rfl
  · intro _; rfl
theorem pf_ex_eq (bl g i : Nat) (K : List (Nat × Nat) → List (List (Nat × Nat))) : ∀ (n x : Nat) (S : List (Nat × Nat)),
    pf_ex bl g i K n x S = (pf_P n x g).flatMap (fun p => if pf_mask p &&& bl = 0 ∧ pf_mask p &&& pf_ms S = 0 then K (pf_push i p S) else []) := by
  intro n
  induction n with
  | zero => intro x S; rfl
  | succ n ih =>
    intro x S
    by_cases hB : bl.testBit x = true ∨ (pf_ms S).testBit x = true
    · rw [pf_ex, if_pos hB]
      symm
      apply pf_fm_nil
      intro p hp
      obtain ⟨q, rfl, _⟩ := pf_P_hd _ _ _ _ hp
      apply if_neg
      intro h
      rw [pf_cons0, pf_cons0] at h
      rcases hB with e | e
      · rw [h.1.1] at e; exact Bool.noConfusion e
      · rw [h.2.1] at e; exact Bool.noConfusion e
    · rw [pf_ex, if_neg hB]
      have hb : bl.testBit x = false := by
        cases e : bl.testBit x with
        | false => rfl
        | true => exact absurd (Or.inl e) hB
      have hs : (pf_ms S).testBit x = false := by
        cases e : (pf_ms S).testBit x with
        | false => rfl
        | true => exact absurd (Or.inr e) hB
      rw [pf_P]
      by_cases hg : x = g
      · rw [if_pos hg, if_pos hg, List.flatMap_cons, List.flatMap_nil, List.append_nil]
        symm
        apply if_pos
        rw [pf_cons0, pf_cons0]
        exact ⟨⟨hb, Nat.zero_and _⟩, hs, Nat.zero_and _⟩
      · rw [if_neg hg, if_neg hg, List.flatMap_append]
        have h1 : (if x < 25 then pf_ex bl g i K n (x + 5) ((x, i) :: S) else []) = (if x < 25 then (pf_P n (x + 5) g).map (fun p => x :: p) else []).flatMap (fun p => if pf_mask p &&& bl = 0 ∧ pf_mask p &&& pf_ms S = 0 then K (pf_push i p S) else []) := by
          by_cases h : x < 25
          · rw [if_pos h, if_pos h, ih]
            apply pf_ex_sub bl i x S K hb hs
            intro p hp y hy
            obtain ⟨q, rfl, hq⟩ := pf_P_hd _ _ _ _ hp
            rcases List.mem_cons.mp hy with e | e
            · omega
            · have := hq y e
              omega
          · rw [if_neg h, if_neg h]; rfl
        have h2 : (if x % 5 < g % 5 then pf_ex bl g i K n (x + 1) ((x, i) :: S) else []) = (if x % 5 < g % 5 then (pf_P n (x + 1) g).map (fun p => x :: p) else []).flatMap (fun p => if pf_mask p &&& bl = 0 ∧ pf_mask p &&& pf_ms S = 0 then K (pf_push i p S) else []) := by
          by_cases h : x % 5 < g % 5
          · rw [if_pos h, if_pos h, ih]
            apply pf_ex_sub bl i x S K hb hs
            intro p hp y hy
            obtain ⟨q, rfl, hq⟩ := pf_P_hd _ _ _ _ hp
            rcases List.mem_cons.mp hy with e | e
            · omega
            · have := hq y e
              omega
          · rw [if_neg h, if_neg h]; rfl
        rw [h1, h2]
def pf_F (bl : Nat) (s g : Nat → Nat) : Nat → Nat → List (Nat × Nat) → List (List (Nat × Nat))
  | 0, _, S => [S]
  | m + 1, i, S => pf_ex bl (25 + g i) i (fun S' => pf_F bl s g m (i + 1) S') 10 (s i) S
end
section
/-! the walker: stacks of (cell, path, ways tried), the top first -/
def pf_st (S : List (Nat × Nat × Nat)) : List (Nat × Nat) := S.map (fun p => (p.1, p.2.1))
def pf_step (bl x i : Nat) (S : List (Nat × Nat × Nat)) : List (Nat × Nat × Nat) :=
  if bl.testBit x = true ∨ (pf_ms (pf_st S)).testBit x = true then S else (x, i, 0) :: S
def pf_go (bl : Nat) (s g : Nat → Nat) (c : Nat) : List (Nat × Nat × Nat) → List (Nat × Nat × Nat)
  | [] => []
  | (x, i, t) :: S => if t = 2 then S else
      if x = 25 + g i then (if t = 0 ∧ i + 1 < c then pf_step bl (s (i + 1)) (i + 1) ((x, i, t + 1) :: S) else (x, i, t + 1) :: S) else
      if t = 0 then (if x < 25 then pf_step bl (x + 5) i ((x, i, t + 1) :: S) else (x, i, t + 1) :: S) else
      (if x % 5 < (25 + g i) % 5 then pf_step bl (x + 1) i ((x, i, t + 1) :: S) else (x, i, t + 1) :: S)
def pf_cm (g : Nat → Nat) (c : Nat) : List (Nat × Nat × Nat) → Prop
  | [] => False
  | (x, i, t) :: _ => x = 25 + g (c - 1) ∧ i = c - 1 ∧ t = 0
def pf_Tr (bl : Nat) (s g : Nat → Nat) (c : Nat) : Nat → List (Nat × Nat × Nat) → List (List (Nat × Nat)) → Prop
  | 0, _, _ => False
  | n + 1, S, L => (S = [] ∧ L = []) ∨
      (S ≠ [] ∧ pf_cm g c S ∧ ∃ L' : List (List (Nat × Nat)), L = pf_st S :: L' ∧ pf_Tr bl s g c n (pf_go bl s g c S) L') ∨
      (S ≠ [] ∧ ¬ pf_cm g c S ∧ pf_Tr bl s g c n (pf_go bl s g c S) L)
def pf_T (bl : Nat) (s g : Nat → Nat) (c : Nat) (S : List (Nat × Nat × Nat)) (L : List (List (Nat × Nat))) : Prop := ∃ n : Nat, pf_Tr bl s g c n S L
theorem pf_T_0 (bl : Nat) (s g : Nat → Nat) (c : Nat) : pf_T bl s g c [] [] := ⟨1, Or.inl ⟨rfl, rfl⟩⟩
theorem pf_T_c {bl : Nat} {s g : Nat → Nat} {c : Nat} {S : List (Nat × Nat × Nat)} {L : List (List (Nat × Nat))} (h0 : S ≠ []) (hc : pf_cm g c S) (h : pf_T bl s g c (pf_go bl s g c S) L) : pf_T bl s g c S (pf_st S :: L) := by
  obtain ⟨n, hn⟩ := h
  exact ⟨n + 1, Or.inr (Or.inl ⟨h0, hc, L, rfl, hn⟩)⟩
theorem pf_T_n {bl : Nat} {s g : Nat → Nat} {c : Nat} {S : List (Nat × Nat × Nat)} {L : List (List (Nat × Nat))} (h0 : S ≠ []) (hc : ¬ pf_cm g c S) (h : pf_T bl s g c (pf_go bl s g c S) L) : pf_T bl s g c S L := by
  obtain ⟨n, hn⟩ := h
  exact ⟨n + 1, Or.inr (Or.inr ⟨h0, hc, hn⟩)⟩
theorem pf_T_2 {bl : Nat} {s g : Nat → Nat} {c : Nat} {S : List (Nat × Nat × Nat)} {L : List (List (Nat × Nat))} (x i : Nat) (h : pf_T bl s g c S L) : pf_T bl s g c ((x, i, 2) :: S) L := by
  apply pf_T_n (by simp)
  · intro hc
    exact absurd hc.2.2 (by decide)
  · rw [pf_go, if_pos rfl]
    exact h
theorem pf_T_1 {bl : Nat} {s g : Nat → Nat} {c : Nat} {S : List (Nat × Nat × Nat)} {L : List (List (Nat × Nat))} (i : Nat) (h : pf_T bl s g c S L) : pf_T bl s g c ((25 + g i, i, 1) :: S) L := by
  apply pf_T_n (by simp)
  · intro hc
    exact absurd hc.2.2 (by decide)
  · rw [pf_go, if_neg (by decide), if_pos rfl, if_neg (fun z => absurd z.1 (by decide))]
    exact pf_T_2 _ _ h
theorem pf_dfs_ex (bl : Nat) (s g : Nat → Nat) (c i : Nat) (K : List (Nat × Nat) → List (List (Nat × Nat)))
    (HK : ∀ (S : List (Nat × Nat × Nat)) (L : List (List (Nat × Nat))), pf_T bl s g c S L → pf_T bl s g c ((25 + g i, i, 0) :: S) (K ((25 + g i, i) :: pf_st S) ++ L)) :
    ∀ (n x : Nat) (S : List (Nat × Nat × Nat)) (L : List (List (Nat × Nat))), (5 - x / 5) + ((25 + g i) % 5 - x % 5) < n → pf_T bl s g c S L →
      pf_T bl s g c (pf_step bl x i S) (pf_ex bl (25 + g i) i K n x (pf_st S) ++ L) := by
  intro n
  induction n with
  | zero => intro x S L h; exact absurd h (Nat.not_lt_zero _)
  | succ n ih =>
    intro x S L hn hT
    rw [pf_step, pf_ex]
    by_cases hB : bl.testBit x = true ∨ (pf_ms (pf_st S)).testBit x = true
    · rw [if_pos hB, if_pos hB]
      exact hT
    · rw [if_neg hB, if_neg hB]
      by_cases hg : x = 25 + g i
      · rw [if_pos hg, hg]
        exact HK S L hT
      · rw [if_neg hg]
        apply pf_T_n (by simp)
        · intro hc
          obtain ⟨h1, h2, _⟩ := hc
          rw [← h2] at h1
          exact hg h1
        · rw [pf_go, if_neg (by decide), if_neg hg, if_pos rfl, List.append_assoc]
          have hd : pf_T bl s g c ((x, i, 1) :: S) ((if x % 5 < (25 + g i) % 5 then pf_ex bl (25 + g i) i K n (x + 1) ((x, i) :: pf_st S) else []) ++ L) := by
            apply pf_T_n (by simp)
            · intro hc
              exact absurd hc.2.2 (by decide)
            · rw [pf_go, if_neg (by decide), if_neg hg, if_neg (by decide)]
              by_cases h5 : x % 5 < (25 + g i) % 5
              · rw [if_pos h5, if_pos h5]
                exact ih (x + 1) ((x, i, 2) :: S) L (by omega) (pf_T_2 x i hT)
              · rw [if_neg h5, if_neg h5]
                exact pf_T_2 x i hT
          by_cases h25 : x < 25
          · rw [if_pos h25, if_pos h25]
            exact ih (x + 5) ((x, i, 1) :: S) _ (by omega) hd
          · rw [if_neg h25, if_neg h25]
            exact hd
theorem pf_dfs_F (bl : Nat) (s g : Nat → Nat) (c : Nat) (hs : ∀ i, i < c → s i < 5) : ∀ (m i : Nat) (S : List (Nat × Nat × Nat)) (L : List (List (Nat × Nat))), i + (m + 1) = c → pf_T bl s g c S L →
    pf_T bl s g c (pf_step bl (s i) i S) (pf_F bl s g (m + 1) i (pf_st S) ++ L) := by
  intro m
  induction m with
  | zero =>
    intro i S L hi hT
    rw [pf_F]
    have h5 := hs i (by omega)
    refine pf_dfs_ex bl s g c i _ ?_ 10 (s i) S L (by omega) hT
    intro S L hT
    have e : i = c - 1 := by omega
    apply pf_T_c (S := (25 + g i, i, 0) :: S) (by simp)
    · exact ⟨by rw [← e], e, rfl⟩
    · rw [pf_go, if_neg (by decide), if_pos rfl, if_neg (fun z => absurd z.2 (by omega))]
      exact pf_T_1 i hT
  | succ m ih =>
    intro i S L hi hT
    rw [pf_F]
    have h5 := hs i (by omega)
    refine pf_dfs_ex bl s g c i _ ?_ 10 (s i) S L (by omega) hT
    intro S L hT
    apply pf_T_n (by simp)
    · intro hc
      exact absurd hc.2.1 (by omega)
    · rw [pf_go, if_neg (by decide), if_pos rfl, if_pos ⟨rfl, by omega⟩]
      exact ih (i + 1) ((25 + g i, i, 1) :: S) L (by omega) (pf_T_1 i hT)
theorem pf_dfs (bl : Nat) (s g : Nat → Nat) (c : Nat) (hc : 0 < c) (hs : ∀ i, i < c → s i < 5) : pf_T bl s g c (pf_step bl (s 0) 0 []) (pf_F bl s g c 0 []) := by
  obtain ⟨m, rfl⟩ : ∃ m, c = m + 1 := ⟨c - 1, by omega⟩
  have h := pf_dfs_F bl s g (m + 1) hs m 0 [] [] (by omega) (pf_T_0 bl s g (m + 1))
  rw [List.append_nil] at h
  exact h
/-! what every stack of the walker keeps -/
def pf_Ok (c : Nat) (S : List (Nat × Nat × Nat)) : Prop :=
  S.Pairwise (fun p q => q.2.1 ≤ p.2.1 ∧ (q.2.1 = p.2.1 → q.1 < p.1)) ∧ (S.map (fun p => p.1)).Nodup ∧ ∀ p, p ∈ S → p.1 < 30 ∧ p.2.1 < c ∧ p.2.2 ≤ 2
theorem pf_st_map (S : List (Nat × Nat × Nat)) : (pf_st S).map (fun p => p.1) = S.map (fun p => p.1) := by
  rw [pf_st, List.map_map]
  rfl
theorem pf_st_bit (S : List (Nat × Nat × Nat)) (x : Nat) : (pf_ms (pf_st S)).testBit x = decide (x ∈ S.map (fun p => p.1)) := by
  rw [pf_ms_mask, pf_mask_bit, pf_st_map]
theorem pf_Ok_0 (c : Nat) : pf_Ok c [] := ⟨List.Pairwise.nil, List.nodup_nil, fun p hp => absurd hp (by simp)⟩
theorem pf_Ok_len {c : Nat} {S : List (Nat × Nat × Nat)} (h : pf_Ok c S) : S.length ≤ 30 := by
  have := pf_pig 30 _ h.2.1 (fun x hx => by
    obtain ⟨p, hp, rfl⟩ := List.mem_map.mp hx
    exact (h.2.2 p hp).1)
  rw [List.length_map] at this
  exact this
theorem pf_Ok_t {c x i t t' : Nat} {S : List (Nat × Nat × Nat)} (h : pf_Ok c ((x, i, t) :: S)) (ht : t' ≤ 2) : pf_Ok c ((x, i, t') :: S) := by
  obtain ⟨h1, h2, h3⟩ := h
  rw [List.pairwise_cons] at h1
  refine ⟨List.pairwise_cons.mpr ⟨h1.1, h1.2⟩, h2, ?_⟩
  intro p hp
  rcases List.mem_cons.mp hp with e | e
  · have := h3 _ (List.mem_cons_self ..)
    subst e
    exact ⟨this.1, this.2.1, ht⟩
  · exact h3 p (List.mem_cons_of_mem _ e)
theorem pf_Ok_tl {c : Nat} {p : Nat × Nat × Nat} {S : List (Nat × Nat × Nat)} (h : pf_Ok c (p :: S)) : pf_Ok c S := by
  obtain ⟨h1, h2, h3⟩ := h
  rw [List.map_cons, List.nodup_cons] at h2
  exact ⟨(List.pairwise_cons.mp h1).2, h2.2, fun q hq => h3 q (List.mem_cons_of_mem _ hq)⟩
theorem pf_Ok_step {c bl x i : Nat} {S : List (Nat × Nat × Nat)} (h : pf_Ok c S) (hx : x < 30) (hi : i < c) (hq : ∀ q, q ∈ S → q.2.1 ≤ i ∧ (q.2.1 = i → q.1 < x)) : pf_Ok c (pf_step bl x i S) := by
  rw [pf_step]
  by_cases hB : bl.testBit x = true ∨ (pf_ms (pf_st S)).testBit x = true
  · rw [if_pos hB]
    exact h
  · rw [if_neg hB]
    obtain ⟨h1, h2, h3⟩ := h
    refine ⟨List.pairwise_cons.mpr ⟨fun q hm => hq q hm, h1⟩, ?_, ?_⟩
    · rw [List.map_cons, List.nodup_cons]
      refine ⟨fun hm => hB (Or.inr ?_), h2⟩
      rw [pf_st_bit]
      exact decide_eq_true hm
    · intro p hp
      rcases List.mem_cons.mp hp with e | e
      · subst e
        exact ⟨hx, hi, Nat.zero_le _⟩
      · exact h3 p e
theorem pf_Ok_go {c bl : Nat} {s g : Nat → Nat} (hs : ∀ i, i < c → s i < 5) (hg : ∀ i, i < c → g i < 5) {S : List (Nat × Nat × Nat)} (h : pf_Ok c S) : pf_Ok c (pf_go bl s g c S) := by
  cases S with
  | nil => exact h
  | cons p S =>
    obtain ⟨x, i, t⟩ := p
    have hp := h.2.2 _ (List.mem_cons_self ..)
    have hx : x < 30 := hp.1
    have hi : i < c := hp.2.1
    have ht : t ≤ 2 := hp.2.2
    have hgi := hg i hi
    have hpw := (List.pairwise_cons.mp h.1).1
    rw [pf_go]
    by_cases h2 : t = 2
    · rw [if_pos h2]
      exact pf_Ok_tl h
    · rw [if_neg h2]
      have hk : pf_Ok c ((x, i, t + 1) :: S) := pf_Ok_t h (by omega)
      have hup : ∀ y, x < y → ∀ q, q ∈ (x, i, t + 1) :: S → q.2.1 ≤ i ∧ (q.2.1 = i → q.1 < y) := by
        intro y hy q hq
        rcases List.mem_cons.mp hq with e | e
        · subst e
          exact ⟨Nat.le_refl _, fun _ => hy⟩
        · have h6 := hpw q e
          exact ⟨h6.1, fun e6 => Nat.lt_trans (h6.2 e6) hy⟩
      by_cases hG : x = 25 + g i
      · rw [if_pos hG]
        by_cases hc : t = 0 ∧ i + 1 < c
        · rw [if_pos hc]
          refine pf_Ok_step hk (by have := hs (i + 1) hc.2; omega) hc.2 ?_
          intro q hq
          rcases List.mem_cons.mp hq with e | e
          · subst e
            exact ⟨Nat.le_succ _, fun e6 => absurd e6 (by show ¬ i = i + 1; omega)⟩
          · have h6 := (hpw q e).1
            have h7 : q.2.1 ≤ i := h6
            exact ⟨by omega, fun e6 => absurd e6 (by omega)⟩
        · rw [if_neg hc]
          exact hk
      · rw [if_neg hG]
        by_cases h0 : t = 0
        · rw [if_pos h0]
          by_cases h25 : x < 25
          · rw [if_pos h25]
            exact pf_Ok_step hk (by omega) hi (hup _ (by omega))
          · rw [if_neg h25]
            exact hk
        · rw [if_neg h0]
          by_cases h5 : x % 5 < (25 + g i) % 5
          · rw [if_pos h5]
            exact pf_Ok_step hk (by omega) hi (hup _ (by omega))
          · rw [if_neg h5]
            exact hk
end
section
/-! the same list by nested loops over the lists of paths -/
def pf_H (bl : Nat) (PL : Nat → List (List Nat)) : Nat → Nat → List (Nat × Nat) → List (List (Nat × Nat))
  | 0, _, S => [S]
  | m + 1, i, S => (PL i).flatMap (fun p => if pf_mask p &&& bl = 0 ∧ pf_mask p &&& pf_ms S = 0 then pf_H bl PL m (i + 1) (pf_push i p S) else [])
def pf_PL (s g : Nat → Nat) (c i : Nat) : List (List Nat) := if i < c then pf_P 10 (s i) (25 + g i) else [[]]
theorem pf_F_H (bl : Nat) (s g : Nat → Nat) (c : Nat) : ∀ (m i : Nat) (S : List (Nat × Nat)), i + m ≤ c → pf_F bl s g m i S = pf_H bl (pf_PL s g c) m i S := by
  intro m
  induction m with
  | zero => intro i S _; rfl
  | succ m ih =>
    intro i S hi
    rw [pf_F, pf_ex_eq, pf_H, pf_PL, if_pos (by omega)]
    apply pf_fm_congr
    intro p _
    apply pf_ite Iff.rfl
    · intro _
      exact ih (i + 1) _ (by omega)
    · intro _; rfl
theorem pf_H_e (bl : Nat) (s g : Nat → Nat) (c : Nat) : ∀ (e i : Nat) (S : List (Nat × Nat)), c ≤ i → pf_H bl (pf_PL s g c) e i S = [S] := by
  intro e
  induction e with
  | zero => intro i S _; rfl
  | succ e ih =>
    intro i S hi
    rw [pf_H, pf_PL, if_neg (by omega), List.flatMap_cons, List.flatMap_nil, List.append_nil, if_pos ⟨Nat.zero_and _, Nat.zero_and _⟩]
    exact ih (i + 1) S (by omega)
theorem pf_H_pad (bl : Nat) (s g : Nat → Nat) (c e : Nat) : ∀ (m i : Nat) (S : List (Nat × Nat)), i + m = c → pf_H bl (pf_PL s g c) (m + e) i S = pf_H bl (pf_PL s g c) m i S := by
  intro m
  induction m with
  | zero =>
    intro i S hi
    rw [Nat.zero_add, pf_H_e bl s g c e i S (by omega)]
    rfl
  | succ m ih =>
    intro i S hi
    rw [show m + 1 + e = (m + e) + 1 by omega, pf_H, pf_H]
    apply pf_fm_congr
    intro p _
    apply pf_ite Iff.rfl
    · intro _
      exact ih (i + 1) _ (by omega)
    · intro _; rfl
theorem pf_F_H4 (bl : Nat) (s g : Nat → Nat) (c : Nat) (hc : c ≤ 4) : pf_F bl s g c 0 [] = pf_H bl (pf_PL s g c) 4 0 [] := by
  rw [pf_F_H bl s g c c 0 [] (by omega), ← pf_H_pad bl s g c (4 - c) c 0 [] (by omega), show c + (4 - c) = 4 by omega]
/-! in masks -/
def pf_own (i : Nat) (S : List (Nat × Nat)) : List Nat := (S.filter (fun p => p.2 == i)).map (fun p => p.1)
def pf_mk (i : Nat) (S : List (Nat × Nat)) : Nat := pf_mask (pf_own i S)
def pf_mks : Nat → List (Nat × Nat) → List Nat
  | 0, _ => []
  | i + 1, S => pf_mk i S :: pf_mks i S
def pf_G (Q : Nat → List Nat) : Nat → Nat → Nat → List Nat → List (List Nat)
  | 0, _, _, l => [l]
  | m + 1, i, a, l => (Q i).flatMap (fun b => if a &&& b = 0 then pf_G Q m (i + 1) (a ||| b) (b :: l) else [])
def pf_Q (bl : Nat) (s g : Nat → Nat) (c i : Nat) : List Nat := ((pf_PL s g c i).map pf_mask).filter (fun m => m &&& bl == 0)
theorem pf_push_eq (i : Nat) : ∀ (p : List Nat) (S : List (Nat × Nat)), pf_push i p S = (p.reverse.map (fun x => (x, i))) ++ S := by
  intro p
  induction p with
  | nil => intro S; rfl
  | cons x p ih =>
    intro S
    rw [pf_push, ih, List.reverse_cons, List.map_append, List.append_assoc]
    rfl
theorem pf_push_ms (i : Nat) : ∀ (p : List Nat) (S : List (Nat × Nat)), pf_ms (pf_push i p S) = pf_ms S ||| pf_mask p := by
  intro p
  induction p with
  | nil => intro S; rw [pf_push, pf_mask, Nat.or_zero]
  | cons x p ih =>
    intro S
    rw [pf_push, ih, pf_ms, pf_mask]
    show (2 ^ x ||| pf_ms S) ||| pf_mask p = _
    rw [Nat.or_comm (2 ^ x) (pf_ms S), Nat.or_assoc]
theorem pf_own_app (j : Nat) (S S' : List (Nat × Nat)) : pf_own j (S ++ S') = pf_own j S ++ pf_own j S' := by
  rw [pf_own, List.filter_append, List.map_append]
  rfl
theorem pf_own_map (i : Nat) : ∀ l : List Nat, pf_own i (l.map (fun x => (x, i))) = l := by
  intro l
  induction l with
  | nil => rfl
  | cons x l ih =>
    have e : pf_own i ((x :: l).map (fun x => (x, i))) = x :: pf_own i (l.map (fun x => (x, i))) := by
      simp [pf_own]
    rw [e, ih]
theorem pf_own_none (i : Nat) : ∀ S : List (Nat × Nat), (∀ p, p ∈ S → p.2 ≠ i) → pf_own i S = [] := by
  intro S h
  rw [pf_own, List.filter_eq_nil_iff.mpr]
  · rfl
  · intro p hp e
    exact h p hp (by simpa using e)
theorem pf_own_push (i : Nat) (p : List Nat) (S : List (Nat × Nat)) (h : ∀ q, q ∈ S → q.2 < i) : pf_own i (pf_push i p S) = p.reverse := by
  rw [pf_push_eq, pf_own_app, pf_own_map, pf_own_none i S (fun q hq => by have := h q hq; omega), List.append_nil]
theorem pf_own_push_ne (i j : Nat) (p : List Nat) (S : List (Nat × Nat)) (h : j ≠ i) : pf_own j (pf_push i p S) = pf_own j S := by
  rw [pf_push_eq, pf_own_app, pf_own_none j, List.nil_append]
  intro q hq
  obtain ⟨x, _, rfl⟩ := List.mem_map.mp hq
  exact fun e => h e.symm
theorem pf_mks_push (i : Nat) (p : List Nat) (S : List (Nat × Nat)) : ∀ j, j ≤ i → pf_mks j (pf_push i p S) = pf_mks j S := by
  intro j
  induction j with
  | zero => intro _; rfl
  | succ j ih =>
    intro hj
    rw [pf_mks, pf_mks, pf_mk, pf_mk, pf_own_push_ne i j p S (by omega), ih (by omega)]
theorem pf_push_lt (i : Nat) (p : List Nat) (S : List (Nat × Nat)) (h : ∀ q, q ∈ S → q.2 < i) : ∀ q, q ∈ pf_push i p S → q.2 < i + 1 := by
  intro q hq
  rw [pf_push_eq, List.mem_append] at hq
  rcases hq with hq | hq
  · obtain ⟨x, _, rfl⟩ := List.mem_map.mp hq
    exact Nat.lt_succ_self _
  · have := h q hq
    omega
theorem pf_H_G (bl : Nat) (s g : Nat → Nat) (c : Nat) : ∀ (m i : Nat) (S : List (Nat × Nat)), (∀ q, q ∈ S → q.2 < i) →
    (pf_H bl (pf_PL s g c) m i S).map (pf_mks (i + m)) = pf_G (pf_Q bl s g c) m i (pf_ms S) (pf_mks i S) := by
  intro m
  induction m with
  | zero => intro i S _; rfl
  | succ m ih =>
    intro i S hS
    rw [pf_H, pf_G, pf_map_fm, pf_Q, pf_fm_filt, pf_fm_map]
    apply pf_fm_congr
    intro p _
    by_cases hb : pf_mask p &&& bl = 0
    · rw [if_pos (show (pf_mask p &&& bl == 0) = true by rw [hb]; rfl)]
      by_cases hd : pf_ms S &&& pf_mask p = 0
      · have hd' : pf_mask p &&& pf_ms S = 0 := by rw [Nat.and_comm]; exact hd
        rw [if_pos ⟨hb, hd'⟩, if_pos hd, show i + (m + 1) = (i + 1) + m by omega, ih (i + 1) _ (pf_push_lt i p S hS), pf_push_ms, pf_mks, pf_mks_push i p S i (Nat.le_refl _), pf_mk, pf_own_push i p S hS]
        rw [pf_mask_ext p.reverse p (fun x => List.mem_reverse)]
      · have hd' : ¬ pf_mask p &&& pf_ms S = 0 := by rw [Nat.and_comm]; exact hd
        rw [if_neg (fun z => hd' z.2), if_neg hd]
        rfl
    · rw [if_neg (show ¬ (pf_mask p &&& bl == 0) = true by simpa using hb), if_neg (fun z => hb z.1)]
      rfl
theorem pf_F_G (bl : Nat) (s g : Nat → Nat) (c : Nat) (hc : c ≤ 4) : (pf_F bl s g c 0 []).map (pf_mks 4) = pf_G (pf_Q bl s g c) 4 0 0 [] := by
  rw [pf_F_H4 bl s g c hc]
  exact pf_H_G bl s g c 4 0 [] (fun q hq => absurd hq (by simp))
/-! how many there can be -/
def pf_sumf (f : Nat → Nat) : List Nat → Nat
  | [] => 0
  | b :: l => f b + pf_sumf f l
def pf_N (Q : Nat → List Nat) : Nat → Nat → Nat → Nat
  | 0, _, _ => 1
  | m + 1, i, a => pf_sumf (fun b => if a &&& b = 0 then pf_N Q m (i + 1) (a ||| b) else 0) (Q i)
theorem pf_fm_len {β : Type} (f : Nat → List β) (h : Nat → Nat) (e : ∀ b, (f b).length = h b) : ∀ l : List Nat, (l.flatMap f).length = pf_sumf h l := by
  intro l
  induction l with
  | nil => rfl
  | cons b l ih => rw [List.flatMap_cons, List.length_append, ih, e, pf_sumf]
theorem pf_G_len (Q : Nat → List Nat) : ∀ (m i a : Nat) (l : List Nat), (pf_G Q m i a l).length = pf_N Q m i a := by
  intro m
  induction m with
  | zero => intro i a l; rfl
  | succ m ih =>
    intro i a l
    rw [pf_G, pf_N]
    apply pf_fm_len
    intro b
    by_cases h : a &&& b = 0
    · rw [if_pos h, if_pos h, ih]
    · rw [if_neg h, if_neg h]; rfl
theorem pf_sumf_le (f h : Nat → Nat) (p : Nat → Bool) (e : ∀ b, f b ≤ h b) : ∀ l : List Nat, pf_sumf f (l.filter p) ≤ pf_sumf h l := by
  intro l
  induction l with
  | nil => exact Nat.le_refl _
  | cons b l ih =>
    rw [List.filter_cons]
    have := e b
    by_cases hp : p b = true
    · rw [if_pos hp, pf_sumf, pf_sumf]; omega
    · rw [if_neg hp, pf_sumf]; omega
theorem pf_N_le (Q Q' : Nat → List Nat) (p : Nat → Bool) (hQ : ∀ i, Q i = (Q' i).filter p) : ∀ (m i a : Nat), pf_N Q m i a ≤ pf_N Q' m i a := by
  intro m
  induction m with
  | zero => intro i a; exact Nat.le_refl _
  | succ m ih =>
    intro i a
    rw [pf_N, pf_N, hQ]
    apply pf_sumf_le
    intro b
    by_cases h : a &&& b = 0
    · rw [if_pos h, if_pos h]; exact ih _ _
    · rw [if_neg h, if_neg h]; exact Nat.le_refl _
theorem pf_F_len (bl : Nat) (s g : Nat → Nat) (c : Nat) (hc : c ≤ 4) : (pf_F bl s g c 0 []).length ≤ pf_N (fun i => (pf_PL s g c i).map pf_mask) 4 0 0 := by
  have h : ((pf_F bl s g c 0 []).map (pf_mks 4)).length = (pf_F bl s g c 0 []).length := List.length_map _
  rw [← h, pf_F_G bl s g c hc, pf_G_len]
  exact pf_N_le _ _ (fun m => m &&& bl == 0) (fun i => rfl) 4 0 0
end
section
/-! tables: the paths of a free board as masks, by start row and goal row -/
def pf_t00 : List Nat := [34636833]
def pf_t01 : List Nat := [101745697, 70288417, 69305377, 69274657, 69273697, 69273667]
def pf_t02 : List Nat := [235963425, 204506145, 141591585, 203523105, 140608545, 138642465, 203492385, 140577825, 138611745, 138550305, 203491425, 140576865, 138610785, 138549345, 138547425, 203491395, 140576835, 138610755, 138549315, 138547395, 138547335]
def pf_t03 : List Nat := [504398881, 472941601, 410027041, 284197921, 471958561, 409044001, 283214881, 407077921, 281248801, 277316641, 471927841, 409013281, 283184161, 407047201, 281218081, 277285921, 406985761, 281156641, 277224481, 277101601, 471926881, 409012321, 283183201, 407046241, 281217121, 277284961, 406984801, 281155681, 277223521, 277100641, 406982881, 281153761, 277221601, 277098721, 277094881, 471926851, 409012291, 283183171, 407046211, 281217091, 277284931, 406984771, 281155651, 277223491, 277100611, 406982851, 281153731, 277221571, 277098691, 277094851, 406982791, 281153671, 277221511, 277098631, 277094791, 277094671]
def pf_t04 : List Nat := [1041269793, 1009812513, 946897953, 821068833, 569410593, 1008829473, 945914913, 820085793, 568427553, 943948833, 818119713, 566461473, 814187553, 562529313, 554664993, 1008798753, 945884193, 820055073, 568396833, 943918113, 818088993, 566430753, 814156833, 562498593, 554634273, 943856673, 818027553, 566369313, 814095393, 562437153, 554572833, 813972513, 562314273, 554449953, 554204193, 1008797793, 945883233, 820054113, 568395873, 943917153, 818088033, 566429793, 814155873, 562497633, 554633313, 943855713, 818026593, 566368353, 814094433, 562436193, 554571873, 813971553, 562313313, 554448993, 554203233, 943853793, 818024673, 566366433, 814092513, 562434273, 554569953, 813969633, 562311393, 554447073, 554201313, 813965793, 562307553, 554443233, 554197473, 554189793, 1008797763, 945883203, 820054083, 568395843, 943917123, 818088003, 566429763, 814155843, 562497603, 554633283, 943855683, 818026563, 566368323, 814094403, 562436163, 554571843, 813971523, 562313283, 554448963, 554203203, 943853763, 818024643, 566366403, 814092483, 562434243, 554569923, 813969603, 562311363, 554447043, 554201283, 813965763, 562307523, 554443203, 554197443, 554189763, 943853703, 818024583, 566366343, 814092423, 562434183, 554569863, 813969543, 562311303, 554446983, 554201223, 813965703, 562307463, 554443143, 554197383, 554189703, 813965583, 562307343, 554443023, 554197263, 554189583, 554189343]
def pf_t11 : List Nat := [69273666]
def pf_t12 : List Nat := [203491394, 140576834, 138610754, 138549314, 138547394, 138547334]
def pf_t13 : List Nat := [471926850, 409012290, 283183170, 407046210, 281217090, 277284930, 406984770, 281155650, 277223490, 277100610, 406982850, 281153730, 277221570, 277098690, 277094850, 406982790, 281153670, 277221510, 277098630, 277094790, 277094670]
def pf_t14 : List Nat := [1008797762, 945883202, 820054082, 568395842, 943917122, 818088002, 566429762, 814155842, 562497602, 554633282, 943855682, 818026562, 566368322, 814094402, 562436162, 554571842, 813971522, 562313282, 554448962, 554203202, 943853762, 818024642, 566366402, 814092482, 562434242, 554569922, 813969602, 562311362, 554447042, 554201282, 813965762, 562307522, 554443202, 554197442, 554189762, 943853702, 818024582, 566366342, 814092422, 562434182, 554569862, 813969542, 562311302, 554446982, 554201222, 813965702, 562307462, 554443142, 554197382, 554189702, 813965582, 562307342, 554443022, 554197262, 554189582, 554189342]
def pf_t22 : List Nat := [138547332]
def pf_t23 : List Nat := [406982788, 281153668, 277221508, 277098628, 277094788, 277094668]
def pf_t24 : List Nat := [943853700, 818024580, 566366340, 814092420, 562434180, 554569860, 813969540, 562311300, 554446980, 554201220, 813965700, 562307460, 554443140, 554197380, 554189700, 813965580, 562307340, 554443020, 554197260, 554189580, 554189340]
def pf_t33 : List Nat := [277094664]
def pf_t34 : List Nat := [813965576, 562307336, 554443016, 554197256, 554189576, 554189336]
def pf_t44 : List Nat := [554189328]
def pf_tab (s g : Nat) : List Nat := (([[pf_t00, pf_t01, pf_t02, pf_t03, pf_t04], [[], pf_t11, pf_t12, pf_t13, pf_t14], [[], [], pf_t22, pf_t23, pf_t24], [[], [], [], pf_t33, pf_t34], [[], [], [], [], pf_t44]] : List (List (List Nat))).getD s []).getD g []
theorem pf_tabP : ∀ s, s < 5 → ∀ g, g < 5 → (pf_P 10 s (25 + g)).map pf_mask = pf_tab s g := by decide +kernel
/-! codes: the steps of a path as binary digits, the first the highest -/
def pf_pb (q : Nat) : Nat → Nat
  | 0 => 0
  | n + 1 => pf_pb q n + q / 2 ^ n % 2
def pf_pc : Nat → Nat → Nat
  | 0, _ => 0
  | n + 1, q => pf_pc n (q / 2) + q % 2
def pf_A (s : Nat) : Nat → Nat → Nat
  | 0, _ => s
  | m + 1, q => pf_A s m (q / 2) + (if q % 2 = 1 then 1 else 5)
def pf_C (s : Nat) : Nat → Nat → Nat
  | 0, _ => 2 ^ s
  | m + 1, q => pf_C s m (q / 2) ||| 2 ^ (pf_A s m (q / 2) + (if q % 2 = 1 then 1 else 5))
theorem pf_tabC : ∀ s, s < 5 → ∀ g, g < 5 → s ≤ g → ((List.range (2 ^ (5 + (g - s)))).filter (fun q => pf_pb q 30 == g - s)).map (pf_C s (5 + (g - s))) = pf_tab s g := by decide +kernel
theorem pf_tabE : ∀ s, s < 5 → ∀ g, g < s → pf_tab s g = [] := by decide +kernel
theorem pf_tabL : ∀ s, s < 5 → ∀ g, g < 5 → (pf_tab s g).length ≤ 126 := by decide +kernel
theorem pf_tabB : ∀ s, s < 5 → ∀ g, g < 5 → (pf_tab s g).all (fun m => decide (m < 2 ^ 30)) = true := by decide +kernel
/-! the rows of a set -/
def pf_mem (A : Nat) : List Nat := (List.range 5).filter (fun r => A.testBit r)
def pf_m (A i : Nat) : Nat := (pf_mem A).getD i 0
def pf_cn (A : Nat) : Nat := (pf_mem A).length
theorem pf_m5 : ∀ A, A < 32 → ∀ i, i < 5 → pf_m A i < 5 := by decide +kernel
theorem pf_cnP : ∀ A, A < 32 → pf_pb A 30 = pf_cn A ∧ pf_pb A 5 = pf_cn A := by decide +kernel
theorem pf_mkA : ∀ A, A < 32 → pf_mask (pf_mem A) = A := by decide +kernel
theorem pf_cn1 : ∀ A, A < 32 → 0 < A → 0 < pf_cn A := by decide +kernel
theorem pf_490 : (List.range 32).all (fun A => (List.range 32).all (fun B => !(pf_cn A == pf_cn B) || decide (pf_N (fun i => if i < pf_cn A then pf_tab (pf_m A i) (pf_m B i) else [0]) 4 0 0 ≤ 490))) = true := by decide +kernel
theorem pf_N_congr (Q Q' : Nat → List Nat) (h : ∀ i, Q i = Q' i) (m i a : Nat) : pf_N Q m i a = pf_N Q' m i a := by
  rw [show Q = Q' from funext h]
theorem pf_L490 (bl A B : Nat) (hA : A < 32) (hB : B < 32) (e : pf_cn A = pf_cn B) (hc : pf_cn A ≤ 4) : (pf_F bl (pf_m A) (pf_m B) (pf_cn A) 0 []).length ≤ 490 := by
  refine Nat.le_trans (pf_F_len bl (pf_m A) (pf_m B) (pf_cn A) hc) ?_
  have h := pf_490
  rw [List.all_eq_true] at h
  have h1 := h A (List.mem_range.mpr hA)
  rw [List.all_eq_true] at h1
  have h2 := h1 B (List.mem_range.mpr hB)
  rw [show (pf_cn A == pf_cn B) = true by rw [e]; exact beq_self_eq_true _, Bool.not_true, Bool.false_or] at h2
  have h3 := of_decide_eq_true h2
  rw [pf_N_congr _ (fun i => if i < pf_cn A then pf_tab (pf_m A i) (pf_m B i) else [0])]
  · exact h3
  · intro i
    show (pf_PL (pf_m A) (pf_m B) (pf_cn A) i).map pf_mask = _
    rw [pf_PL]
    by_cases hi : i < pf_cn A
    · rw [if_pos hi, if_pos hi]
      exact pf_tabP _ (pf_m5 A hA i (by omega)) _ (pf_m5 B hB i (by omega))
    · rw [if_neg hi, if_neg hi]
      rfl
end
section
/-! codes and digits -/
theorem pf_pb_s (n : Nat) : ∀ q, pf_pb q (n + 1) = pf_pb (q / 2) n + q % 2 := by
  induction n with
  | zero => intro q; simp [pf_pb]
  | succ n ih =>
    intro q
    rw [pf_pb, ih, pf_pb, Nat.div_div_eq_div_mul, Nat.pow_succ, Nat.mul_comm 2 (2 ^ n)]
    omega
theorem pf_pb_pc (n : Nat) : ∀ q, pf_pb q n = pf_pc n q := by
  induction n with
  | zero => intro q; rfl
  | succ n ih => intro q; rw [pf_pb_s, ih, pf_pc]
theorem pf_pc0 (n : Nat) : pf_pc n 0 = 0 := by
  induction n with
  | zero => rfl
  | succ n ih => rw [pf_pc, Nat.zero_div, ih]
theorem pf_pc_N (n : Nat) : ∀ N q, n ≤ N → q < 2 ^ n → pf_pc N q = pf_pc n q := by
  induction n with
  | zero =>
    intro N q _ hq
    have : q = 0 := by simpa using hq
    subst this
    rw [pf_pc0, pf_pc0]
  | succ n ih =>
    intro N q hN hq
    obtain ⟨M, rfl⟩ : ∃ M, N = M + 1 := ⟨N - 1, by omega⟩
    rw [pf_pc, pf_pc, ih M (q / 2) (by omega) (by rw [Nat.pow_succ] at hq; omega)]
theorem pf_pb30 {n q : Nat} (hn : n ≤ 30) (hq : q < 2 ^ n) : pf_pb q 30 = pf_pc n q := by
  rw [pf_pb_pc, pf_pc_N n 30 q hn hq]
theorem pf_pc_le (n : Nat) : ∀ q, pf_pc n q ≤ n := by
  induction n with
  | zero => intro q; exact Nat.le_refl _
  | succ n ih => intro q; rw [pf_pc]; have := ih (q / 2); omega
theorem pf_A_eq (s n : Nat) : ∀ q, pf_A s n q = s + pf_pc n q + 5 * (n - pf_pc n q) := by
  induction n with
  | zero => intro q; rfl
  | succ n ih =>
    intro q
    rw [pf_A, ih, pf_pc]
    have := pf_pc_le n (q / 2)
    by_cases h : q % 2 = 1
    · rw [if_pos h]; omega
    · rw [if_neg h]; omega
theorem pf_dd (q r : Nat) : q / 2 ^ r / 2 = q / 2 ^ (r + 1) := by rw [Nat.div_div_eq_div_mul, ← Nat.pow_succ]
theorem pf_dd2 (q r : Nat) : q / 2 / 2 ^ r = q / 2 ^ (r + 1) := by rw [Nat.div_div_eq_div_mul, Nat.mul_comm 2, ← Nat.pow_succ]
theorem pf_A_mono (s k : Nat) : ∀ m q, pf_A s m (q / 2 ^ k) ≤ pf_A s (m + k) q := by
  induction k with
  | zero => intro m q; rw [Nat.pow_zero, Nat.div_one]; exact Nat.le_refl _
  | succ k ih =>
    intro m q
    have h := ih m (q / 2)
    rw [pf_dd2] at h
    rw [show m + (k + 1) = (m + k) + 1 by omega, pf_A]
    omega
theorem pf_C_s (s n : Nat) : ∀ q, (pf_C s n q).testBit s = true := by
  induction n with
  | zero => intro q; rw [pf_C, Nat.testBit_two_pow]; exact decide_eq_true rfl
  | succ n ih => intro q; rw [pf_C, Nat.testBit_or, ih, Bool.true_or]
theorem pf_C_0 (s n q : Nat) : pf_C s n q ≠ 0 := by
  intro h
  have := pf_C_s s n q
  rw [h, Nat.zero_testBit] at this
  exact Bool.noConfusion this
theorem pf_C_lt (s n : Nat) : ∀ q, pf_A s n q < 30 → pf_C s n q < 2 ^ 30 := by
  induction n with
  | zero => intro q h; exact Nat.pow_lt_pow_right (by decide) h
  | succ n ih =>
    intro q h
    rw [pf_A] at h
    rw [pf_C]
    refine Nat.or_lt_two_pow (ih _ ?_) (Nat.pow_lt_pow_right (by decide) h)
    by_cases h1 : q % 2 = 1
    · rw [if_pos h1] at h; omega
    · rw [if_neg h1] at h; omega
/-! the list of the codes' paths as far as a loop has come -/
def pf_cl (bl s d q : Nat) : List Nat := (((List.range q).filter (fun q => pf_pb q 30 == d)).map (pf_C s (5 + d))).filter (fun m => m &&& bl == 0)
def pf_fp (bl s d q : Nat) : Nat := if pf_pb q 30 = d then (if pf_C s (5 + d) q &&& bl = 0 then pf_C s (5 + d) q else 0) else 0
theorem pf_cl_s (bl s d q : Nat) : pf_cl bl s d (q + 1) = pf_cl bl s d q ++ (if pf_fp bl s d q = 0 then [] else [pf_fp bl s d q]) := by
  rw [pf_cl, List.range_succ, List.filter_append, List.map_append, List.filter_append, pf_cl, pf_fp]
  congr 1
  by_cases h : pf_pb q 30 = d
  · rw [if_pos h]
    have e1 : (pf_pb q 30 == d) = true := by rw [h]; exact beq_self_eq_true d
    by_cases h2 : pf_C s (5 + d) q &&& bl = 0
    · rw [if_pos h2, if_neg (pf_C_0 s (5 + d) q)]
      simp [e1, h2]
    · rw [if_neg h2, if_pos rfl]
      simp [e1, h2]
  · rw [if_neg h, if_pos rfl]
    have e1 : (pf_pb q 30 == d) = false := by simpa using h
    simp [e1]
theorem pf_cl_mono (bl s d q k : Nat) : (pf_cl bl s d q).length ≤ (pf_cl bl s d (q + k)).length := by
  induction k with
  | zero => exact Nat.le_refl _
  | succ k ih =>
    rw [← Nat.add_assoc, pf_cl_s, List.length_append]
    omega
theorem pf_cl_end (bl s g : Nat) (hs : s < 5) (hg : g < 5) (h : s ≤ g) : pf_cl bl s (g - s) (2 ^ (5 + (g - s))) = (pf_tab s g).filter (fun m => m &&& bl == 0) := by
  rw [pf_cl, pf_tabC s hs g hg h]
theorem pf_cl_room (bl s g q : Nat) (hs : s < 5) (hg : g < 5) (h : s ≤ g) (hq : q < 2 ^ (5 + (g - s))) (hf : pf_fp bl s (g - s) q ≠ 0) : (pf_cl bl s (g - s) q).length < 126 := by
  have h1 := pf_cl_mono bl s (g - s) (q + 1) (2 ^ (5 + (g - s)) - (q + 1))
  rw [show q + 1 + (2 ^ (5 + (g - s)) - (q + 1)) = 2 ^ (5 + (g - s)) by omega, pf_cl_end bl s g hs hg h, pf_cl_s, if_neg hf, List.length_append] at h1
  have h2 : ((pf_tab s g).filter (fun m => m &&& bl == 0)).length ≤ (pf_tab s g).length := List.length_filter_le _ _
  have h3 := pf_tabL s hs g hg
  have h4 : [pf_fp bl s (g - s) q].length = 1 := rfl
  omega
/-! counting codes, and the table of ways -/
def pf_ct (f : Nat → Bool) : Nat → Nat
  | 0 => 0
  | n + 1 => pf_ct f n + (if f n = true then 1 else 0)
theorem pf_ct2 (f : Nat → Bool) (N : Nat) : pf_ct f (2 * N) = pf_ct (fun q => f (2 * q)) N + pf_ct (fun q => f (2 * q + 1)) N := by
  induction N with
  | zero => rfl
  | succ N ih =>
    rw [show 2 * (N + 1) = 2 * N + 1 + 1 by omega, pf_ct, pf_ct, pf_ct, pf_ct, ih]
    omega
theorem pf_ct_congr (f h : Nat → Bool) : ∀ N, (∀ q, q < N → f q = h q) → pf_ct f N = pf_ct h N := by
  intro N
  induction N with
  | zero => intro _; rfl
  | succ N ih =>
    intro e
    rw [pf_ct, pf_ct, e N (Nat.lt_succ_self N), ih (fun q hq => e q (by omega))]
theorem pf_ct_0 (f : Nat → Bool) : ∀ N, (∀ q, q < N → f q = false) → pf_ct f N = 0 := by
  intro N
  induction N with
  | zero => intro _; rfl
  | succ N ih =>
    intro e
    rw [pf_ct, e N (Nat.lt_succ_self N), ih (fun q hq => e q (by omega))]
    rfl
def pf_fq (bl s n d q : Nat) : Bool := pf_pc n q == d && (pf_C s n q &&& bl == 0)
def pf_cnt (bl s n d : Nat) : Nat := pf_ct (pf_fq bl s n d) (2 ^ n)
theorem pf_cnt_big (bl s n d : Nat) (h : n < d) : pf_cnt bl s n d = 0 := by
  apply pf_ct_0
  intro q _
  have := pf_pc_le n q
  rw [pf_fq, show (pf_pc n q == d) = false by simp; omega, Bool.false_and]
theorem pf_or0 (a b x : Nat) : ((a ||| 2 ^ x) &&& b == 0) = ((a &&& b == 0) && !b.testBit x) := by
  rw [Bool.eq_iff_iff, Bool.and_eq_true, beq_iff_eq, beq_iff_eq, pf_and0, pf_and0]
  constructor
  · intro h
    refine ⟨fun y hy => h y (by rw [Nat.testBit_or, hy, Bool.true_or]), ?_⟩
    rw [h x (by rw [Nat.testBit_or, Nat.testBit_two_pow, decide_eq_true rfl, Bool.or_true])]
    rfl
  · intro h y hy
    rw [Nat.testBit_or, Nat.testBit_two_pow, Bool.or_eq_true] at hy
    rcases hy with hy | hy
    · exact h.1 y hy
    · have e := of_decide_eq_true hy
      subst e
      have h2 := h.2
      cases hb : b.testBit x with
      | false => rfl
      | true => rw [hb] at h2; exact Bool.noConfusion h2
theorem pf_cnt_s (bl s n d : Nat) : pf_cnt bl s (n + 1) d = if bl.testBit (s + d + 5 * (n + 1 - d)) = true then 0 else pf_cnt bl s n d + (if 0 < d then pf_cnt bl s n (d - 1) else 0) := by
  have h0 : ∀ q, pf_fq bl s (n + 1) d (2 * q) = (pf_fq bl s n d q && !bl.testBit (s + d + 5 * (n + 1 - d))) := by
    intro q
    rw [pf_fq, pf_pc, pf_C, show 2 * q / 2 = q by omega, show 2 * q % 2 = 0 by omega, if_neg (by decide), Nat.add_zero, pf_or0, pf_fq]
    by_cases h : pf_pc n q = d
    · have := pf_pc_le n q
      rw [pf_A_eq, h, show s + d + 5 * (n - d) + 5 = s + d + 5 * (n + 1 - d) by omega, Bool.and_assoc]
    · rw [show (pf_pc n q == d) = false by simpa using h]
      rfl
  have h1 : ∀ q, pf_fq bl s (n + 1) d (2 * q + 1) = ((decide (0 < d) && pf_fq bl s n (d - 1) q) && !bl.testBit (s + d + 5 * (n + 1 - d))) := by
    intro q
    rw [pf_fq, pf_pc, pf_C, show (2 * q + 1) / 2 = q by omega, show (2 * q + 1) % 2 = 1 by omega, if_pos rfl, pf_or0, pf_fq]
    by_cases hd : 0 < d
    · rw [decide_eq_true hd, Bool.true_and]
      by_cases h : pf_pc n q = d - 1
      · have := pf_pc_le n q
        rw [pf_A_eq, h, show d - 1 + 1 = d by omega, show s + (d - 1) + 5 * (n - (d - 1)) + 1 = s + d + 5 * (n + 1 - d) by omega, beq_self_eq_true, beq_self_eq_true, Bool.true_and, Bool.true_and]
      · rw [show (pf_pc n q + 1 == d) = false by simp; omega, show (pf_pc n q == d - 1) = false by simpa using h]
        rfl
    · rw [decide_eq_false hd, show (pf_pc n q + 1 == d) = false by simp; omega]
      rfl
  rw [pf_cnt, Nat.pow_succ, Nat.mul_comm, pf_ct2, pf_ct_congr _ _ _ (fun q _ => h0 q), pf_ct_congr _ _ _ (fun q _ => h1 q)]
  by_cases hb : bl.testBit (s + d + 5 * (n + 1 - d)) = true
  · rw [if_pos hb, hb, pf_ct_0 _ _ (fun q _ => by rw [Bool.not_true, Bool.and_false]), pf_ct_0 _ _ (fun q _ => by rw [Bool.not_true, Bool.and_false])]
  · rw [if_neg hb]
    have hb' : bl.testBit (s + d + 5 * (n + 1 - d)) = false := by simpa using hb
    rw [hb', pf_ct_congr (fun q => pf_fq bl s n d q && !false) (pf_fq bl s n d) _ (fun q _ => by rw [Bool.not_false, Bool.and_true])]
    by_cases hd : 0 < d
    · rw [if_pos hd, pf_ct_congr (fun q => decide (0 < d) && pf_fq bl s n (d - 1) q && !false) (pf_fq bl s n (d - 1)) _ (fun q _ => by rw [decide_eq_true hd, Bool.true_and, Bool.not_false, Bool.and_true])]
      rfl
    · rw [if_neg hd, pf_ct_0 (fun q => decide (0 < d) && pf_fq bl s n (d - 1) q && !false) _ (fun q _ => by rw [decide_eq_false hd, Bool.false_and, Bool.false_and])]
      rfl
def pf_wv (bl s x : Nat) : Nat := if s ≤ x % 5 then pf_cnt bl s (x / 5 + (x % 5 - s)) (x % 5 - s) else 0
theorem pf_cnt_00 (bl s : Nat) : pf_cnt bl s 0 0 = if bl.testBit s = true then 0 else 1 := by
  have e : (pf_C s 0 0 &&& bl == 0) = !bl.testBit s := by
    have := pf_or0 0 bl s
    rw [Nat.zero_or, Nat.zero_and] at this
    rw [pf_C, this]
    rfl
  show pf_ct (pf_fq bl s 0 0) 1 = _
  rw [pf_ct, pf_ct, pf_fq, e]
  cases bl.testBit s <;> rfl
theorem pf_wv_lo (bl s x : Nat) (h : x % 5 < s) : pf_wv bl s x = 0 := if_neg (by omega)
theorem pf_wv_rec (bl s x : Nat) (hs : s < 5) : pf_wv bl s x = if bl.testBit x = true then 0 else
    ((if x = s then 1 else 0) + (if 5 ≤ x then pf_wv bl s (x - 5) else 0)) + (if 0 < x % 5 then pf_wv bl s (x - 1) else 0) := by
  by_cases hr : x % 5 < s
  · rw [pf_wv_lo bl s x hr, if_neg (show ¬ x = s by omega)]
    have h1 : (if 5 ≤ x then pf_wv bl s (x - 5) else 0) = 0 := by
      by_cases h : 5 ≤ x
      · rw [if_pos h]; exact pf_wv_lo bl s (x - 5) (by omega)
      · rw [if_neg h]
    have h2 : (if 0 < x % 5 then pf_wv bl s (x - 1) else 0) = 0 := by
      by_cases h : 0 < x % 5
      · rw [if_pos h]; exact pf_wv_lo bl s (x - 1) (by omega)
      · rw [if_neg h]
    rw [h1, h2]
    by_cases hb : bl.testBit x = true
    · rw [if_pos hb]
    · rw [if_neg hb]
  · by_cases hx : x = s
    · subst hx
      have h2 : (if 0 < x % 5 then pf_wv bl x (x - 1) else 0) = 0 := by
        by_cases h : 0 < x % 5
        · rw [if_pos h]; exact pf_wv_lo bl x (x - 1) (by omega)
        · rw [if_neg h]
      rw [h2, pf_wv, if_pos (by omega), if_pos rfl, if_neg (show ¬ 5 ≤ x by omega), show x / 5 + (x % 5 - x) = 0 by omega, show x % 5 - x = 0 by omega, pf_cnt_00]
    · obtain ⟨n, hn⟩ : ∃ n, x / 5 + (x % 5 - s) = n + 1 := ⟨x / 5 + (x % 5 - s) - 1, by omega⟩
      rw [pf_wv, if_pos (by omega), hn, pf_cnt_s, show s + (x % 5 - s) + 5 * (n + 1 - (x % 5 - s)) = x by omega, if_neg hx, Nat.zero_add]
      have h1 : pf_cnt bl s n (x % 5 - s) = (if 5 ≤ x then pf_wv bl s (x - 5) else 0) := by
        by_cases h : 5 ≤ x
        · rw [if_pos h, pf_wv, show (x - 5) % 5 = x % 5 by omega, if_pos (by omega), show (x - 5) / 5 + (x % 5 - s) = n by omega]
        · rw [if_neg h, pf_cnt_big bl s n _ (by omega)]
      have h2 : (if 0 < x % 5 - s then pf_cnt bl s n (x % 5 - s - 1) else 0) = (if 0 < x % 5 then pf_wv bl s (x - 1) else 0) := by
        by_cases h : 0 < x % 5 - s
        · rw [if_pos h, if_pos (by omega), pf_wv, show (x - 1) % 5 = x % 5 - 1 by omega, if_pos (by omega), show (x - 1) / 5 + (x % 5 - 1 - s) = n by omega, show x % 5 - 1 - s = x % 5 - s - 1 by omega]
        · rw [if_neg h]
          by_cases h0 : 0 < x % 5
          · rw [if_pos h0, pf_wv_lo bl s (x - 1) (by omega)]
          · rw [if_neg h0]
      rw [h1, h2]
end
section
/-! the member with so many lesser ones -/
def pf_sel (k : Int32) : List Nat → Nat → Int32
  | [], _ => -4
  | x :: l, j => if nI j = k then nI x else pf_sel k l (j + 1)
theorem pf_sel_at : ∀ (l : List Nat) (j i : Nat), i < l.length → j + i < 2 ^ 31 → pf_sel (nI (j + i)) l j = nI (l.getD i 0) := by
  intro l
  induction l with
  | nil => intro j i h; exact absurd h (Nat.not_lt_zero _)
  | cons x l ih =>
    intro j i h hj
    rw [pf_sel]
    cases i with
    | zero => rw [Nat.add_zero, if_pos rfl]; rfl
    | succ i =>
      rw [if_neg (fun e => by have := (nI_eq (by omega) hj).mp e; omega)]
      have := ih (j + 1) i (by simpa using h) (by omega)
      rw [show j + 1 + i = j + (i + 1) by omega] at this
      rw [this]
      rfl
/-! products -/
def pf_xp (w : Nat → Int32) (m : Nat) : Nat → Int32
  | 0 => 1
  | n + 1 => if m.testBit n = true then pf_xp w m n * w n else pf_xp w m n
def pf_lp (w : Nat → Int32) : List Nat → Int32
  | [] => 1
  | x :: l => pf_lp w l * w x
theorem pf_xp_add (w : Nat → Int32) (m x : Nat) (h : m.testBit x = false) : ∀ N, pf_xp w (2 ^ x ||| m) N = if x < N then pf_xp w m N * w x else pf_xp w m N := by
  intro N
  induction N with
  | zero => rw [if_neg (Nat.not_lt_zero _)]; rfl
  | succ N ih =>
    rw [pf_xp, pf_xp, Nat.testBit_or, Nat.testBit_two_pow, ih]
    by_cases hx : x = N
    · subst hx
      rw [decide_eq_true rfl, Bool.true_or, if_pos rfl, if_neg (Nat.lt_irrefl _), if_pos (Nat.lt_succ_self _), h, if_neg (by decide)]
    · rw [decide_eq_false hx, Bool.false_or]
      by_cases hl : x < N
      · rw [if_pos hl, if_pos (Nat.lt_succ_of_lt hl)]
        by_cases hb : m.testBit N = true
        · rw [if_pos hb, if_pos hb, Int32.mul_assoc, Int32.mul_assoc, Int32.mul_comm (w x)]
        · rw [if_neg hb, if_neg hb]
      · rw [if_neg hl, if_neg (show ¬ x < N + 1 by omega)]
theorem pf_xp_0 (w : Nat → Int32) : ∀ N, pf_xp w 0 N = 1 := by
  intro N
  induction N with
  | zero => rfl
  | succ N ih => rw [pf_xp, Nat.zero_testBit, if_neg (by decide), ih]
theorem pf_xp_lp (w : Nat → Int32) (N : Nat) : ∀ l : List Nat, l.Nodup → (∀ x, x ∈ l → x < N) → pf_xp w (pf_mask l) N = pf_lp w l := by
  intro l
  induction l with
  | nil => intro _ _; exact pf_xp_0 w N
  | cons x l ih =>
    intro hn hl
    rw [List.nodup_cons] at hn
    rw [pf_mask, pf_xp_add w _ x (by rw [pf_mask_bit]; exact decide_eq_false hn.1), if_pos (hl x (List.mem_cons_self ..)), ih hn.2 (fun y hy => hl y (List.mem_cons_of_mem _ hy)), pf_lp]
/-! counts -/
theorem pf_ct_le (f : Nat → Bool) : ∀ n, pf_ct f n ≤ n := by
  intro n
  induction n with
  | zero => exact Nat.le_refl _
  | succ n ih =>
    rw [pf_ct]
    by_cases h : f n = true
    · rw [if_pos h]; omega
    · rw [if_neg h]; omega
theorem pf_ct_all (f : Nat → Bool) : ∀ n, pf_ct f n = n ↔ ∀ k, k < n → f k = true := by
  intro n
  induction n with
  | zero => exact ⟨fun _ k hk => absurd hk (Nat.not_lt_zero _), fun _ => rfl⟩
  | succ n ih =>
    rw [pf_ct]
    have hle := pf_ct_le f n
    by_cases h : f n = true
    · rw [if_pos h]
      constructor
      · intro e k hk
        by_cases hkn : k = n
        · rw [hkn]; exact h
        · exact ih.mp (by omega) k (by omega)
      · intro e
        rw [ih.mpr (fun k hk => e k (by omega))]
    · rw [if_neg h]
      constructor
      · intro e; omega
      · intro e; exact absurd (e n (Nat.lt_succ_self _)) h
theorem pf_pb_ct (a : Nat) : ∀ n, pf_pb a n = pf_ct (fun x => a.testBit x) n := by
  intro n
  induction n with
  | zero => rfl
  | succ n ih => rw [pf_pb, pf_ct, ih, pf_tb]
def pf_an (M : Nat → Nat) : Nat → Nat
  | 0 => M 0
  | n + 1 => pf_an M n &&& M (n + 1)
theorem pf_an_bit (M : Nat → Nat) (x : Nat) : ∀ n, (pf_an M n).testBit x = true ↔ ∀ f, f < n + 1 → (M f).testBit x = true := by
  intro n
  induction n with
  | zero =>
    constructor
    · intro h f hf
      rw [show f = 0 by omega]; exact h
    · intro h; exact h 0 (by omega)
  | succ n ih =>
    rw [pf_an, Nat.testBit_and, Bool.and_eq_true, ih]
    constructor
    · intro h f hf
      by_cases e : f = n + 1
      · rw [e]; exact h.2
      · exact h.1 f (by omega)
    · intro h
      exact ⟨fun f hf => h f (by omega), h _ (by omega)⟩
theorem pf_musts (M : Nat → Nat) (n : Nat) : pf_pb (pf_an M n) 30 = pf_ct (fun x => decide (pf_ct (fun f => (M f).testBit x) (n + 1) = n + 1)) 30 := by
  rw [pf_pb_ct]
  apply pf_ct_congr
  intro x _
  rw [Bool.eq_iff_iff, pf_an_bit, decide_eq_true_iff, pf_ct_all]
theorem pf_an_lt (M : Nat → Nat) (h : M 0 < 2 ^ 30) : ∀ n, pf_an M n < 2 ^ 30 := by
  intro n
  induction n with
  | zero => exact h
  | succ n ih => rw [pf_an]; exact Nat.lt_of_le_of_lt Nat.and_le_left ih
theorem pf_has1 (m a : Nat) : m &&& 2 ^ a = 2 ^ a ↔ m.testBit a = true := by
  constructor
  · intro h
    have e : (m &&& 2 ^ a).testBit a = true := by rw [h, Nat.testBit_two_pow]; exact decide_eq_true rfl
    rw [Nat.testBit_and, Bool.and_eq_true] at e
    exact e.1
  · intro h
    apply Nat.eq_of_testBit_eq
    intro x
    rw [Nat.testBit_and, Nat.testBit_two_pow]
    by_cases e : a = x
    · subst e; rw [h]; rfl
    · rw [decide_eq_false e, Bool.and_false]
theorem pf_has2 (m a b : Nat) : m &&& (2 ^ a ||| 2 ^ b) = (2 ^ a ||| 2 ^ b) ↔ m.testBit a = true ∧ m.testBit b = true := by
  constructor
  · intro h
    have e : ∀ x, (2 ^ a ||| 2 ^ b).testBit x = true → m.testBit x = true := by
      intro x hx
      rw [← h, Nat.testBit_and, Bool.and_eq_true] at hx
      exact hx.1
    exact ⟨e a (by rw [Nat.testBit_or, Nat.testBit_two_pow, decide_eq_true rfl, Bool.true_or]), e b (by rw [Nat.testBit_or, Nat.testBit_two_pow, Nat.testBit_two_pow, decide_eq_true (rfl : b = b), Bool.or_true])⟩
  · intro h
    rw [Nat.and_or_distrib_left, (pf_has1 m a).mpr h.1, (pf_has1 m b).mpr h.2]
/-! a walk's cells by its paths -/
theorem pf_own_mem (i x : Nat) (S : List (Nat × Nat)) : x ∈ pf_own i S ↔ (x, i) ∈ S := by
  rw [pf_own, List.mem_map]
  constructor
  · rintro ⟨p, hp, rfl⟩
    rw [List.mem_filter] at hp
    have : p.2 = i := by simpa using hp.2
    rw [← this]
    exact hp.1
  · intro h
    exact ⟨(x, i), List.mem_filter.mpr ⟨h, by simp⟩, rfl⟩
theorem pf_mk4 (S : List (Nat × Nat)) (h : ∀ p, p ∈ S → p.2 < 4) : pf_mk 0 S ||| pf_mk 1 S ||| pf_mk 2 S ||| pf_mk 3 S = pf_ms S := by
  apply Nat.eq_of_testBit_eq
  intro x
  rw [Nat.testBit_or, Nat.testBit_or, Nat.testBit_or, pf_ms_mask, pf_mk, pf_mk, pf_mk, pf_mk, pf_mask_bit, pf_mask_bit, pf_mask_bit, pf_mask_bit, pf_mask_bit, Bool.eq_iff_iff]
  simp only [Bool.or_eq_true, decide_eq_true_eq, pf_own_mem, List.mem_map]
  constructor
  · rintro (((h | h) | h) | h)
    · exact ⟨_, h, rfl⟩
    · exact ⟨_, h, rfl⟩
    · exact ⟨_, h, rfl⟩
    · exact ⟨_, h, rfl⟩
  · rintro ⟨p, hp, rfl⟩
    obtain ⟨y, j⟩ := p
    have hj : j < 4 := h _ hp
    have : j = 0 ∨ j = 1 ∨ j = 2 ∨ j = 3 := by omega
    rcases this with e | e | e | e
    · subst e; exact Or.inl (Or.inl (Or.inl hp))
    · subst e; exact Or.inl (Or.inl (Or.inr hp))
    · subst e; exact Or.inl (Or.inr hp)
    · subst e; exact Or.inr hp
/-! the arrays of the families -/
def pf_Fam (E : List (List Nat)) (fp fc : Nat → Int32) : Prop :=
  ∀ (f a b c d : Nat), E[f]? = some [d, c, b, a] → fp (4 * f) = nI a ∧ fp (4 * f + 1) = nI b ∧ fp (4 * f + 2) = nI c ∧ fp (4 * f + 3) = nI d ∧ fc f = nI (a ||| b ||| c ||| d)
theorem pf_Fam_0 (fp fc : Nat → Int32) : pf_Fam [] fp fc := by
  intro f a b c d h
  simp at h
theorem pf_Fam_s {E : List (List Nat)} {fp fc : Nat → Int32} (h : pf_Fam E fp fc) (a b c d : Nat) :
    pf_Fam (E ++ [[d, c, b, a]]) (upd (upd (upd (upd fp (4 * E.length) (nI a)) (4 * E.length + 1) (nI b)) (4 * E.length + 2) (nI c)) (4 * E.length + 3) (nI d)) (upd fc E.length (nI (a ||| b ||| c ||| d))) := by
  intro f a' b' c' d' e
  by_cases hf : f < E.length
  · rw [List.getElem?_append_left hf] at e
    obtain ⟨h1, h2, h3, h4, h5⟩ := h f a' b' c' d' e
    refine ⟨?_, ?_, ?_, ?_, ?_⟩
    · rw [pk_un (by omega), pk_un (by omega), pk_un (by omega), pk_un (by omega)]; exact h1
    · rw [pk_un (by omega), pk_un (by omega), pk_un (by omega), pk_un (by omega)]; exact h2
    · rw [pk_un (by omega), pk_un (by omega), pk_un (by omega), pk_un (by omega)]; exact h3
    · rw [pk_un (by omega), pk_un (by omega), pk_un (by omega), pk_un (by omega)]; exact h4
    · rw [pk_un (by omega)]; exact h5
  · rw [List.getElem?_append_right (by omega)] at e
    have e0 : f - E.length = 0 := by
      cases hk : f - E.length with
      | zero => rfl
      | succ k => rw [hk] at e; simp at e
    rw [e0] at e
    have ef : f = E.length := by omega
    subst ef
    simp at e
    obtain ⟨rfl, rfl, rfl, rfl⟩ := e
    refine ⟨?_, ?_, ?_, ?_, ?_⟩
    · rw [pk_un (by omega), pk_un (by omega), pk_un (by omega), pk_us]
    · rw [pk_un (by omega), pk_un (by omega), pk_us]
    · rw [pk_un (by omega), pk_us]
    · rw [pk_us]
    · rw [pk_us]
/-! the stack in the walker's arrays -/
def pf_rep (w o t : Nat → Int32) : List (Nat × Nat × Nat) → Prop
  | [] => True
  | p :: S => w S.length = nI p.1 ∧ o S.length = nI p.2.1 ∧ t S.length = nI p.2.2 ∧ pf_rep w o t S
theorem pf_rep_fr {w o t w' o' t' : Nat → Int32} : ∀ S : List (Nat × Nat × Nat), (∀ k, k < S.length → w' k = w k ∧ o' k = o k ∧ t' k = t k) → pf_rep w o t S → pf_rep w' o' t' S := by
  intro S
  induction S with
  | nil => intro _ _; trivial
  | cons p S ih =>
    intro h hr
    obtain ⟨h1, h2, h3, h4⟩ := hr
    obtain ⟨k1, k2, k3⟩ := h S.length (by simp)
    exact ⟨k1.trans h1, k2.trans h2, k3.trans h3, ih (fun k hk => h k (by simp; omega)) h4⟩
def pf_tk (S : List (Nat × Nat × Nat)) (tk : Nat → Int32) : Prop := ∀ x, x < 30 → tk x = if (pf_ms (pf_st S)).testBit x = true then 1 else 0
def pf_bk (bl : Nat) (b : Nat → Int32) : Prop := ∀ x, x < 30 → b x = if bl.testBit x = true then 1 else 0
end
section
/-! a walk laid out from its first cell on -/
def pf_lay (w o : Nat → Int32) : List (Nat × Nat) → Nat → Prop
  | [], _ => True
  | p :: R, k => w k = nI p.1 ∧ o k = nI p.2 ∧ pf_lay w o R (k + 1)
theorem pf_lay_app (w o : Nat → Int32) (p : Nat × Nat) : ∀ (R : List (Nat × Nat)) (k : Nat), pf_lay w o R k → w (k + R.length) = nI p.1 → o (k + R.length) = nI p.2 → pf_lay w o (R ++ [p]) k := by
  intro R
  induction R with
  | nil => intro k _ h1 h2; exact ⟨h1, h2, trivial⟩
  | cons q R ih =>
    intro k h h1 h2
    obtain ⟨a, b, c⟩ := h
    refine ⟨a, b, ih (k + 1) c ?_ ?_⟩
    · rw [show k + 1 + R.length = k + (q :: R).length by simp; omega]; exact h1
    · rw [show k + 1 + R.length = k + (q :: R).length by simp; omega]; exact h2
theorem pf_lay_fr (w o w' o' : Nat → Int32) : ∀ (R : List (Nat × Nat)) (k : Nat), (∀ j, j < k + R.length → w' j = w j ∧ o' j = o j) → pf_lay w o R k → pf_lay w' o' R k := by
  intro R
  induction R with
  | nil => intro k _ _; trivial
  | cons q R ih =>
    intro k h hl
    obtain ⟨a, b, c⟩ := hl
    have hk := h k (by simp)
    exact ⟨hk.1.trans a, hk.2.trans b, ih (k + 1) (fun j hj => h j (by simp; omega)) c⟩
theorem pf_rep_lay {w o t : Nat → Int32} : ∀ S : List (Nat × Nat × Nat), pf_rep w o t S → pf_lay w o (pf_st S).reverse 0 := by
  intro S
  induction S with
  | nil => intro _; trivial
  | cons p S ih =>
    intro h
    obtain ⟨h1, h2, h3, h4⟩ := h
    have e : (pf_st (p :: S)).reverse = (pf_st S).reverse ++ [(p.1, p.2.1)] := by
      rw [pf_st, List.map_cons, List.reverse_cons]
      rfl
    have el : (pf_st S).reverse.length = S.length := by rw [List.length_reverse, pf_st, List.length_map]
    rw [e]
    refine pf_lay_app w o (p.1, p.2.1) _ 0 (ih h4) ?_ ?_
    · rw [el, Nat.zero_add]; exact h1
    · rw [el, Nat.zero_add]; exact h2
/-! the product over a walk laid out -/
def pf_fl (w : Nat → Int32) : Int32 → List Nat → Int32
  | a, [] => a
  | a, x :: l => pf_fl w (a * w x) l
theorem pf_fl_lp (w : Nat → Int32) : ∀ (R l : List Nat), pf_fl w (pf_lp w l) R = pf_lp w (R.reverse ++ l) := by
  intro R
  induction R with
  | nil => intro l; rfl
  | cons x R ih =>
    intro l
    rw [pf_fl, List.reverse_cons, List.append_assoc]
    exact ih (x :: l)
theorem pf_fl_S (w : Nat → Int32) (S : List (Nat × Nat)) : pf_fl w 1 (S.reverse.map (fun p => p.1)) = pf_lp w (S.map (fun p => p.1)) := by
  have h := pf_fl_lp w (S.reverse.map (fun p => p.1)) []
  rw [List.append_nil, ← List.map_reverse, List.reverse_reverse] at h
  exact h
/-! a path's cells ascend -/
theorem pf_own_asc {c : Nat} {S : List (Nat × Nat × Nat)} (h : pf_Ok c S) (i : Nat) : (pf_own i (pf_st S)).reverse.Pairwise (fun a b => a < b) := by
  rw [List.pairwise_reverse, pf_own, List.pairwise_map]
  have h1 := h.1
  have h2 : (pf_st S).Pairwise (fun p q => q.2 ≤ p.2 ∧ (q.2 = p.2 → q.1 < p.1)) := by
    rw [pf_st, List.pairwise_map]
    exact h1
  have h3 := List.Pairwise.filter (fun p : Nat × Nat => p.2 == i) h2
  refine List.Pairwise.imp_of_mem ?_ h3
  intro p q hp hq hpq
  have ep : p.2 = i := by simpa using (List.mem_filter.mp hp).2
  have eq : q.2 = i := by simpa using (List.mem_filter.mp hq).2
  exact hpq.2 (by rw [ep, eq])
theorem pf_st_mem {c : Nat} {S : List (Nat × Nat × Nat)} (h : pf_Ok c S) : ∀ p, p ∈ pf_st S → p.1 < 30 ∧ p.2 < c := by
  intro p hp
  rw [pf_st, List.mem_map] at hp
  obtain ⟨q, hq, rfl⟩ := hp
  exact ⟨(h.2.2 q hq).1, (h.2.2 q hq).2.1⟩
theorem pf_own_lt {c : Nat} {S : List (Nat × Nat × Nat)} (h : pf_Ok c S) (i : Nat) : ∀ x, x ∈ pf_own i (pf_st S) → x < 30 := by
  intro x hx
  rw [pf_own_mem] at hx
  exact (pf_st_mem h _ hx).1
theorem pf_mk_lt {c : Nat} {S : List (Nat × Nat × Nat)} (h : pf_Ok c S) (i : Nat) : pf_mk i (pf_st S) < 2 ^ 30 := pf_mask_lt _ (pf_own_lt h i)
theorem pf_ms_lt {c : Nat} {S : List (Nat × Nat × Nat)} (h : pf_Ok c S) : pf_ms (pf_st S) < 2 ^ 30 := by
  rw [pf_ms_mask]
  apply pf_mask_lt
  intro x hx
  obtain ⟨p, hp, rfl⟩ := List.mem_map.mp hx
  exact (pf_st_mem h p hp).1
theorem pf_weight {c : Nat} {S : List (Nat × Nat × Nat)} (h : pf_Ok c S) (w : Nat → Int32) : pf_xp w (pf_ms (pf_st S)) 30 = pf_fl w 1 ((pf_st S).reverse.map (fun p => p.1)) := by
  rw [pf_fl_S, pf_ms_mask, pf_st_map]
  exact pf_xp_lp w 30 _ h.2.1 (fun x hx => by
    obtain ⟨p, hp, rfl⟩ := List.mem_map.mp hx
    exact (h.2.2 p hp).1)
/-! every walk of the list is a good stack -/
theorem pf_Tr_ok {bl : Nat} {s g : Nat → Nat} {c : Nat} (hs : ∀ i, i < c → s i < 5) (hg : ∀ i, i < c → g i < 5) : ∀ (n : Nat) (S : List (Nat × Nat × Nat)) (L : List (List (Nat × Nat))), pf_Tr bl s g c n S L → pf_Ok c S → ∀ V, V ∈ L → ∃ S0, pf_Ok c S0 ∧ V = pf_st S0 := by
  intro n
  induction n with
  | zero => intro S L h; exact absurd h (fun z => z)
  | succ n ih =>
    intro S L h hk V hV
    rcases h with ⟨_, h⟩ | ⟨_, _, L', h, hT⟩ | ⟨_, _, hT⟩
    · rw [h] at hV; simp at hV
    · rw [h] at hV
      rcases List.mem_cons.mp hV with e | e
      · exact ⟨S, hk, e⟩
      · exact ih _ _ hT (pf_Ok_go hs hg hk) V e
    · exact ih _ _ hT (pf_Ok_go hs hg hk) V hV
theorem pf_Ok_begin {bl c : Nat} {s : Nat → Nat} (hc : 0 < c) (hs : ∀ i, i < c → s i < 5) : pf_Ok c (pf_step bl (s 0) 0 []) :=
  pf_Ok_step (pf_Ok_0 c) (by have := hs 0 hc; omega) hc (fun q hq => absurd hq (by simp))
theorem pf_F_ok {bl : Nat} {s g : Nat → Nat} {c : Nat} (hc : 0 < c) (hs : ∀ i, i < c → s i < 5) (hg : ∀ i, i < c → g i < 5) : ∀ V, V ∈ pf_F bl s g c 0 [] → ∃ S0, pf_Ok c S0 ∧ V = pf_st S0 := by
  obtain ⟨n, hn⟩ := pf_dfs bl s g c hc hs
  exact pf_Tr_ok hs hg n _ _ hn (pf_Ok_begin hc hs)
end
section
/-! X's small methods -/
theorem xt_in30 {i : Nat} (h : i < 30) : ¬ (30 : Int32) ≤ nI i := nI_ge (b := 30) h (by decide)
theorem xt_30 : (30 : Int32) ≤ nI 30 := nI_le (a := 30) (b := 30) (Nat.le_refl _) (by decide)
theorem xt_b1 {m j : Nat} (hm : m < 2 ^ 31) (hj : j < 30) (hb : m.testBit j = true) : ((nI m >>> (nI j &&& 31)) &&& 1) = 1 := by
  rw [pf_bit hm (by omega), pf_tb, if_pos hb]; rfl
theorem xt_b0 {m j : Nat} (hm : m < 2 ^ 31) (hj : j < 30) (hb : ¬ m.testBit j = true) : ¬ ((nI m >>> (nI j &&& 31)) &&& 1) = 1 := by
  rw [pf_bit hm (by omega), pf_tb, if_neg hb]; decide
theorem xt_countBits {post : Int32 → Prop} {m : Nat} (hm : m < 2 ^ 31) (h : post (nI (pf_pb m 30))) : wpX_countBits post (nI m) := by
  refine loop_0 (fun n i (s : Int32) => wX_countBits_4 post (nI m) n s (nI i)) (fun i s => s = nI (pf_pb m i)) 30 0 rfl ?_ ?_
  · intro n s hs
    subst hs
    exact br_t xt_30 h
  · intro n i s hi hs hn
    subst hs
    refine br_f (xt_in30 hi) (nm_r (e' := nI (pf_pb m (i + 1))) ?_ (nm_r (nI_1 i) (hn _ rfl)))
    rw [pf_bit hm (by omega), nI_add]
    rfl
theorem xt_member_l {post : Int32 → Prop} {m : Nat} (hm : m < 2 ^ 31) (k : Int32) : ∀ (e j d : Nat) (l : List Nat), j + e = 30 → l.Pairwise (fun a b => a < b) → (∀ x, x ∈ l → j ≤ x ∧ x < 30) → (∀ x, j ≤ x → x < 30 → (m.testBit x = true ↔ x ∈ l)) → post (pf_sel k l d) → wX_member_4 post (nI m) k (e + 1) (nI d) (nI j) := by
  intro e
  induction e with
  | zero =>
    intro j d l hj _ hl _ h
    have ej : j = 30 := by omega
    subst ej
    cases l with
    | nil => exact br_t xt_30 h
    | cons x l =>
      have := hl x (List.mem_cons_self ..)
      omega
  | succ e ih =>
    intro j d l hj hp hl hm2 h
    have hj30 : j < 30 := by omega
    by_cases hb : m.testBit j = true
    · have hjl := (hm2 j (Nat.le_refl _) hj30).mp hb
      cases l with
      | nil => simp at hjl
      | cons x l =>
        rw [List.pairwise_cons] at hp
        have hx : x = j := by
          rcases List.mem_cons.mp hjl with e1 | e1
          · exact e1.symm
          · have h1 := hp.1 j e1
            have h2 := (hl x (List.mem_cons_self ..)).1
            omega
        subst hx
        rw [pf_sel] at h
        by_cases hk : nI d = k
        · rw [if_pos hk] at h
          exact br_f (xt_in30 hj30) (br_t (xt_b1 hm hj30 hb) (br_t hk h))
        · rw [if_neg hk] at h
          refine br_f (xt_in30 hj30) (br_t (xt_b1 hm hj30 hb) (br_f hk (nm_r (nI_1 d) (nm_r (nI_1 x) ?_))))
          refine ih (x + 1) (d + 1) l (by omega) hp.2 (fun y hy => ?_) (fun y hy hy2 => ?_) h
          · exact ⟨hp.1 y hy, (hl y (List.mem_cons_of_mem _ hy)).2⟩
          · rw [hm2 y (by omega) hy2, List.mem_cons]
            exact ⟨fun z => z.resolve_left (by omega), Or.inr⟩
    · refine br_f (xt_in30 hj30) (br_f (xt_b0 hm hj30 hb) (nm_r (nI_1 j) ?_))
      have hnl : j ∉ l := fun z => hb ((hm2 j (Nat.le_refl _) hj30).mpr z)
      refine ih (j + 1) d l (by omega) hp (fun y hy => ?_) (fun y hy hy2 => hm2 y (by omega) hy2) h
      have h1 := hl y hy
      have h2 : y ≠ j := fun z => hnl (z ▸ hy)
      exact ⟨by omega, h1.2⟩
theorem xt_member {post : Int32 → Prop} {k : Int32} (l : List Nat) (hl : l.Pairwise (fun a b => a < b)) (hb : ∀ x, x ∈ l → x < 30) (h : post (pf_sel k l 0)) : wpX_member post (nI (pf_mask l)) k := by
  refine ⟨31, xt_member_l (m := pf_mask l) (by have := pf_mask_lt l hb; omega) k 30 0 0 l rfl hl (fun x hx => ⟨Nat.zero_le _, hb x hx⟩) (fun x _ _ => ?_) h⟩
  rw [pf_mask_bit, decide_eq_true_iff]
theorem xt_isCell_t {post : Int32 → Prop} {x : Nat} (hx : x < 30) (h : post 1) : wpX_isCell post (nI x) :=
  br_f (nI_pos (by omega)) (br_f (xt_in30 hx) h)
theorem xt_isCell_f {post : Int32 → Prop} {p : Int32} (hp : p < 0 ∨ 30 ≤ p) (h : post 0) : wpX_isCell post p :=
  br_c (fun _ => h) (fun hn => br_t (hp.resolve_left hn) h)
section
variable {bc ec fn ld : Int32} {wt sr gr pl pn fp fc : Nat → Int32}
theorem xt_weightOf {post : Int32 → Prop} {m : Nat} (hm : m < 2 ^ 31) (h : post (pf_xp wt m 30)) : wpX_weightOf post (bc, ec, fn, ld, wt, sr, gr, pl, pn, fp, fc) (nI m) := by
  refine loop_0 (fun n i (s : Int32) => wX_weightOf_4 post (nI m) bc ec fn ld wt sr gr pl pn fp fc n s (nI i)) (fun i s => s = pf_xp wt m i) 30 1 rfl ?_ ?_
  · intro n s hs
    subst hs
    exact br_t xt_30 h
  · intro n i s hi hs hn
    subst hs
    by_cases hb : m.testBit i = true
    · refine br_f (xt_in30 hi) (br_t (xt_b1 hm hi hb) ⟨vp_in_nI hi (by decide), nm_r (e' := pf_xp wt m (i + 1)) ?_ (nm_r (nI_1 i) (hn _ rfl))⟩)
      rw [nI_clamp (by omega), pf_xp, if_pos hb]
    · refine br_f (xt_in30 hi) (br_f (xt_b0 hm hi hb) (nm_r (nI_1 i) (hn _ ?_)))
      rw [pf_xp, if_neg hb]
theorem xt_isEnd_t {post : Int32 → Prop} {x c : Nat} (hc : c ≤ 4) (hx : x < c) (h : post 1) : wpX_isEnd post (bc, nI c, fn, ld, wt, sr, gr, pl, pn, fp, fc) (nI x) :=
  br_f (nI_pos (by omega)) (br_f (nI_ge hx (by omega)) h)
theorem xt_isEnd_f {post : Int32 → Prop} {p : Int32} (hp : p < 0 ∨ ec ≤ p) (h : post 0) : wpX_isEnd post (bc, ec, fn, ld, wt, sr, gr, pl, pn, fp, fc) p :=
  br_c (fun _ => h) (fun hn => br_t (hp.resolve_left hn) h)
theorem xt_codeCount {post : Int32 → Prop} {d : Nat} (hd : d < 5) (h : post (nI (2 ^ (5 + d)))) : wpX_codeCount post (nI d) := by
  refine br_t (nI_pos' (by omega)) ?_
  rw [show (5 : Int32) + nI d = nI (5 + d) from nI_add 5 d, pf_one (by omega)]
  exact h
theorem xt_freePath_l {post : Int32 → Prop} {bl s d q : Nat} (hs : s + d < 5) (hbl : bl < 2 ^ 30) (hA : pf_A s (5 + d) q < 30) (h : post (nI (if pf_C s (5 + d) q &&& bl = 0 then pf_C s (5 + d) q else 0))) (hq : q < 2 ^ (5 + d)) :
    ∀ r m, m + r = 5 + d → wX_freePath_26 post (nI q) (nI bl) ec fn ld wt sr gr pl pn fp fc (r + 1) (nI (pf_A s m (q / 2 ^ r))) (nI (pf_C s m (q / 2 ^ r))) (nI r - 1) := by
  have hq2 : q < 2 ^ 31 := Nat.lt_of_lt_of_le hq (Nat.pow_le_pow_right (by decide) (by omega))
  intro r
  induction r with
  | zero =>
    intro m hm
    rw [Nat.pow_zero, Nat.div_one]
    have em : m = 5 + d := by omega
    subst em
    have hC := pf_C_lt s (5 + d) q hA
    have hCb : pf_C s (5 + d) q &&& bl < 2 ^ 30 := Nat.lt_of_le_of_lt Nat.and_le_left hC
    refine br_t (by decide) ?_
    rw [nx_and]
    by_cases h0 : pf_C s (5 + d) q &&& bl = 0
    · rw [if_pos h0] at h
      exact br_t (by rw [h0]; rfl) h
    · rw [if_neg h0] at h
      exact br_f (nI_ne0 (by omega) (by omega)) h
  | succ r ih =>
    intro m hm
    have hmono := pf_A_mono s r (m + 1) q
    rw [show m + 1 + r = 5 + d by omega] at hmono
    have eA : pf_A s (m + 1) (q / 2 ^ r) = pf_A s m (q / 2 ^ (r + 1)) + (if q / 2 ^ r % 2 = 1 then 1 else 5) := by
      rw [pf_A, pf_dd]
    have eC : pf_C s (m + 1) (q / 2 ^ r) = pf_C s m (q / 2 ^ (r + 1)) ||| 2 ^ pf_A s (m + 1) (q / 2 ^ r) := by
      rw [pf_C, eA, pf_dd]
    have next : ∀ z : Nat, pf_A s (m + 1) (q / 2 ^ r) = pf_A s m (q / 2 ^ (r + 1)) + z →
        wX_freePath_48 post (wX_freePath_26 post (nI q) (nI bl) ec fn ld wt sr gr pl pn fp fc (r + 1)) (nI q) (nI (pf_C s m (q / 2 ^ (r + 1)))) (nI r) (nI z) (nI (pf_A s m (q / 2 ^ (r + 1)))) (nI bl) ec fn ld wt sr gr pl pn fp fc := by
      intro z ez
      refine nm_r (e' := nI (pf_A s (m + 1) (q / 2 ^ r))) (by rw [nI_add, ez]) (nm_r (e' := nI (pf_C s (m + 1) (q / 2 ^ r))) ?_ (nm_r (e' := nI r - 1) (Int32.sub_eq_add_neg (nI r) 1).symm (ih (m + 1) (by omega))))
      rw [pf_one (by omega), pf_or, ← eC]
    rw [nI_pred]
    refine br_f (nI_pos (by omega)) ?_
    rw [pf_bit hq2 (by omega)]
    by_cases hb : q / 2 ^ r % 2 = 1
    · rw [if_pos hb] at eA
      exact br_t (by rw [hb]; rfl) (next 1 eA)
    · rw [if_neg hb] at eA
      exact br_f (by rw [show q / 2 ^ r % 2 = 0 by omega]; decide) (next 5 eA)
theorem xt_freePath {post : Int32 → Prop} {bl s d q : Nat} (hs : s + d < 5) (hbl : bl < 2 ^ 30) (hq : q < 2 ^ (5 + d)) (h : post (nI (pf_fp bl s d q))) : wpX_freePath post (nI bl, ec, fn, ld, wt, sr, gr, pl, pn, fp, fc) (nI s) (nI d) (nI q) := by
  have hq2 : q < 2 ^ 31 := Nat.lt_of_lt_of_le hq (Nat.pow_le_pow_right (by decide) (by omega))
  have hpc := pf_pb30 (n := 5 + d) (by omega) hq
  have hle := pf_pc_le (5 + d) q
  refine xt_countBits hq2 ?_
  rw [pf_fp] at h
  refine pk_eq (pf_pb q 30) d (fun e => ?_) (fun e => ?_) rfl rfl (by omega) (by omega)
  · rw [if_pos e] at h
    have hA : pf_A s (5 + d) q < 30 := by rw [pf_A_eq, ← hpc, e]; omega
    refine nm_r (e' := nI (2 ^ s)) (pf_one (by omega)) (nm_r (e' := nI (5 + d) - 1) (by rw [← nI_add]; rfl) ⟨5 + d + 1, ?_⟩)
    have := xt_freePath_l (post := post) hs hbl hA h hq (5 + d) 0 (by omega) (ec := ec) (fn := fn) (ld := ld) (wt := wt) (sr := sr) (gr := gr) (pl := pl) (pn := pn) (fp := fp) (fc := fc)
    exact this
  · rw [if_neg e] at h
    exact h
end
end
section
/-! X lists paths and families -/
def pf_PA (Q : List Nat) (i : Nat) (pl pn : Nat → Int32) : Prop := pn i = nI Q.length ∧ Q.length ≤ 126 ∧ ∀ k, k < Q.length → pl (126 * i + k) = nI (Q.getD k 0)
theorem pf_PA_s {Q : List Nat} {i : Nat} {pl pn : Nat → Int32} (h : pf_PA Q i pl pn) (hl : Q.length < 126) (m : Nat) : pf_PA (Q ++ [m]) i (upd pl (126 * i + Q.length) (nI m)) (upd pn i (nI (Q.length + 1))) := by
  refine ⟨?_, ?_, ?_⟩
  · rw [pk_us, List.length_append]; rfl
  · rw [List.length_append]; show Q.length + 1 ≤ 126; omega
  · intro k hk
    rw [List.length_append] at hk
    have hk' : k < Q.length + 1 := hk
    by_cases e : k = Q.length
    · subst e
      rw [pk_us, List.getD_eq_getElem?_getD, List.getElem?_append_right (Nat.le_refl _), Nat.sub_self]
      rfl
    · rw [pk_un (by omega), h.2.2 k (by omega), List.getD_eq_getElem?_getD, List.getD_eq_getElem?_getD, List.getElem?_append_left (by omega)]
theorem pf_PA_fr {Q : List Nat} {i j : Nat} {pl pn : Nat → Int32} (h : pf_PA Q j pl pn) (hij : j ≠ i) (k : Nat) (hk : k < 126) (x y : Int32) : pf_PA Q j (upd pl (126 * i + k) x) (upd pn i y) := by
  obtain ⟨h1, h2, h3⟩ := h
  refine ⟨by rw [pk_un hij]; exact h1, h2, fun k' hk' => ?_⟩
  rw [pk_un (by omega)]
  exact h3 k' hk'
theorem pf_PA_fr2 {Q : List Nat} {i j : Nat} {pl pn : Nat → Int32} (h : pf_PA Q j pl pn) (hij : j ≠ i) (y : Int32) : pf_PA Q j pl (upd pn i y) := by
  obtain ⟨h1, h2, h3⟩ := h
  exact ⟨by rw [pk_un hij]; exact h1, h2, h3⟩
theorem pf_fp_lt {bl s d q : Nat} (hs : s + d < 5) (hq : q < 2 ^ (5 + d)) : pf_fp bl s d q < 2 ^ 30 := by
  rw [pf_fp]
  have hpc := pf_pb30 (n := 5 + d) (by omega) hq
  have hle := pf_pc_le (5 + d) q
  by_cases e : pf_pb q 30 = d
  · rw [if_pos e]
    have hA : pf_A s (5 + d) q < 30 := by rw [pf_A_eq, ← hpc, e]; omega
    by_cases h : pf_C s (5 + d) q &&& bl = 0
    · rw [if_pos h]; exact pf_C_lt s (5 + d) q hA
    · rw [if_neg h]; decide
  · rw [if_neg e]; decide
theorem pf_Q_lt {bl : Nat} {s g : Nat → Nat} {c : Nat} (hs : ∀ i, i < c → s i < 5) (hg : ∀ i, i < c → g i < 5) (i : Nat) : ∀ m, m ∈ pf_Q bl s g c i → m < 2 ^ 30 := by
  intro m hm
  rw [pf_Q, List.mem_filter, pf_PL] at hm
  by_cases hi : i < c
  · rw [if_pos hi, pf_tabP _ (hs i hi) _ (hg i hi)] at hm
    have h := pf_tabB _ (hs i hi) _ (hg i hi)
    rw [List.all_eq_true] at h
    exact of_decide_eq_true (h m hm.1)
  · rw [if_neg hi] at hm
    have : m = 0 := by simpa [pf_mask] using hm.1
    subst this
    decide
theorem pf_drop {Q : List Nat} {k d : Nat} {R : List Nat} (h : Q.drop k = d :: R) : k < Q.length ∧ Q.getD k 0 = d ∧ Q.drop (k + 1) = R ∧ d ∈ Q := by
  have hk : k < Q.length := by
    apply Nat.lt_of_not_le
    intro hle
    rw [List.drop_eq_nil_of_le hle] at h
    cases h
  rw [List.drop_eq_getElem_cons hk] at h
  injection h with h1 h2
  refine ⟨hk, ?_, h2, ?_⟩
  · rw [List.getD_eq_getElem?_getD, List.getElem?_eq_getElem hk]; exact h1
  · rw [← h1]; exact List.getElem_mem hk
theorem pf_drop0 {Q : List Nat} {k : Nat} (h : Q.drop k = []) : Q.length ≤ k := List.drop_eq_nil_iff.mp h
theorem pf_and0I {x y : Nat} (hy : y < 2 ^ 30) : (nI x &&& nI y = 0) ↔ x &&& y = 0 := by
  have : x &&& y ≤ y := Nat.and_le_right
  rw [nx_and, ← nI_0, nI_eq (by omega) (by omega)]
def pf_f3 (a b c d : Nat) : List (List Nat) := if (a ||| b ||| c) &&& d = 0 then [[d, c, b, a]] else []
def pf_f2 (Q3 : List Nat) (a b c : Nat) : List (List Nat) := if (a ||| b) &&& c = 0 then Q3.flatMap (pf_f3 a b c) else []
def pf_f1 (Q2 Q3 : List Nat) (a b : Nat) : List (List Nat) := if a &&& b = 0 then Q2.flatMap (pf_f2 Q3 a b) else []
def pf_f0 (Q1 Q2 Q3 : List Nat) (a : Nat) : List (List Nat) := Q1.flatMap (pf_f1 Q2 Q3 a)
theorem pf_G4 (Q : Nat → List Nat) : pf_G Q 4 0 0 [] = (Q 0).flatMap (pf_f0 (Q 1) (Q 2) (Q 3)) := by
  simp only [pf_G, Nat.zero_and, Nat.zero_or, if_true]
  rfl
section
variable {bc ec fn ld : Int32} {wt sr gr : Nat → Int32}
theorem xt_addPath {post : SX → Prop} {pl pn fp fc : Nat → Int32} {i k : Nat} {p : Int32} (hi : i < 4) (hk : k < 126) (hp : pn i = nI k) (h : post (bc, ec, fn, ld, wt, sr, gr, upd pl (126 * i + k) p, upd pn i (nI (k + 1)), fp, fc)) : wpX_addPath post (bc, ec, fn, ld, wt, sr, gr, pl, pn, fp, fc) (nI i) p := by
  have ci : (nI i).toNatClampNeg = i := nI_clamp (by omega)
  have vi : vp_in (nI i) 4 := vp_in_nI hi (by decide)
  have ea : (126 : Int32) * nI i + nI k = nI (126 * i + k) := by rw [show (126 : Int32) = nI 126 from rfl, pk_mul, nI_add]
  have ce : (nI (126 * i + k)).toNatClampNeg = 126 * i + k := nI_clamp (by omega)
  exact ⟨vi, nm_r (e' := nI k) (by rw [ci]; exact hp) (br_f (nI_ge (b := 126) hk (by decide)) ⟨by rw [ea]; exact vp_in_nI (by omega) (by decide), nm_r (e' := upd pl (126 * i + k) p) (by rw [ea, ce]) ⟨vi, nm_r (e' := upd pn i (nI (k + 1))) (by rw [ci, nI_1]) h⟩⟩)⟩
theorem xt_lp_l {post : SX → Prop} {fp fc : Nat → Int32} {bl i s g : Nat} (hbl : bl < 2 ^ 30) (hi : i < 4) (hs : s < 5) (hg : g < 5) (hsg : s ≤ g) (hsr : sr i = nI s) :
    ∀ (e q : Nat) (pl pn : Nat → Int32), q + e = 2 ^ (5 + (g - s)) → pf_PA (pf_cl bl s (g - s) q) i pl pn →
      (∀ pl' pn', pf_PA (pf_cl bl s (g - s) (2 ^ (5 + (g - s)))) i pl' pn' → (∀ j Q, j ≠ i → pf_PA Q j pl pn → pf_PA Q j pl' pn') → post (nI bl, ec, fn, ld, wt, sr, gr, pl', pn', fp, fc)) →
      wX_listPaths_44 post (nI i) (nI (g - s)) (nI (2 ^ (5 + (g - s)))) (e + 1) (nI q) (nI bl) ec fn ld wt sr gr pl pn fp fc := by
  have hN : 2 ^ (5 + (g - s)) < 2 ^ 31 := Nat.pow_lt_pow_right (by decide) (by omega)
  have ci : (nI i).toNatClampNeg = i := nI_clamp (by omega)
  have es : sr (nI i).toNatClampNeg = nI s := by rw [ci]; exact hsr
  intro e
  induction e with
  | zero =>
    intro q pl pn hq hPA h
    have eq : q = 2 ^ (5 + (g - s)) := by omega
    rw [eq] at hPA ⊢
    exact br_t (nI_le (Nat.le_refl _) hN) (h pl pn hPA (fun _ _ _ z => z))
  | succ e ih =>
    intro q pl pn hq hPA h
    have hqN : q < 2 ^ (5 + (g - s)) := by omega
    refine br_f (nI_ge hqN hN) ⟨vp_in_nI hi (by decide), ?_⟩
    rw [es]
    refine xt_freePath (by omega) hbl hqN ?_
    have hlt := pf_fp_lt (bl := bl) (s := s) (d := g - s) (q := q) (by omega) hqN
    have hcs := pf_cl_s bl s (g - s) q
    by_cases hf : pf_fp bl s (g - s) q = 0
    · rw [if_pos hf, List.append_nil] at hcs
      refine br_t (by rw [hf]; rfl) (nm_r (nI_1 q) (ih (q + 1) pl pn (by omega) (by rw [hcs]; exact hPA) h))
    · rw [if_neg hf] at hcs
      have room := pf_cl_room bl s g q hs hg hsg hqN hf
      refine br_f (nI_ne0 (by omega) (by omega)) (xt_addPath hi room hPA.1 (nm_r (nI_1 q) (ih (q + 1) _ _ (by omega) ?_ ?_)))
      · rw [hcs]; exact pf_PA_s hPA room _
      · intro pl' pn' h1 h2
        exact h pl' pn' h1 (fun j Q hj hQ => h2 j Q hj (pf_PA_fr hQ hj _ room _ _))
theorem xt_listPaths {post : SX → Prop} {pl pn fp fc : Nat → Int32} {bl c i : Nat} {s g : Nat → Nat} (hbl : bl < 2 ^ 30) (hc : c ≤ 4) (hi : i < 4) (hs : ∀ i, i < c → s i < 5) (hg : ∀ i, i < c → g i < 5) (hsr : ∀ i, i < c → sr i = nI (s i)) (hgr : ∀ i, i < c → gr i = nI (g i))
    (h : ∀ pl' pn', pf_PA (pf_Q bl s g c i) i pl' pn' → (∀ j Q, j ≠ i → pf_PA Q j pl pn → pf_PA Q j pl' pn') → post (nI bl, nI c, fn, ld, wt, sr, gr, pl', pn', fp, fc)) : wpX_listPaths post (nI bl, nI c, fn, ld, wt, sr, gr, pl, pn, fp, fc) (nI i) := by
  have ci : (nI i).toNatClampNeg = i := nI_clamp (by omega)
  have vi : vp_in (nI i) 4 := vp_in_nI hi (by decide)
  refine ⟨vi, nm_r (e' := upd pn i 0) (by rw [ci]) ?_⟩
  refine pk_lt i c (fun hic => ?_) (fun hic => ?_) rfl rfl (by omega) (by omega)
  · have es : sr (nI i).toNatClampNeg = nI (s i) := by rw [ci]; exact hsr i hic
    have eg : gr (nI i).toNatClampNeg = nI (g i) := by rw [ci]; exact hgr i hic
    have h5 := hs i hic
    have g5 := hg i hic
    have eQ : pf_Q bl s g c i = (pf_tab (s i) (g i)).filter (fun m => m &&& bl == 0) := by
      rw [pf_Q, pf_PL, if_pos hic, pf_tabP _ h5 _ g5]
    by_cases hsg : s i ≤ g i
    · refine ⟨vi, vi, nm_r (e' := nI (g i - s i)) (by rw [es, eg, pk_sub hsg]) (xt_codeCount (by omega) ⟨_, xt_lp_l hbl hi h5 g5 hsg (hsr i hic) (2 ^ (5 + (g i - s i))) 0 pl (upd pn i 0) (by omega) ?_ ?_⟩)⟩
      · exact ⟨pk_us, Nat.zero_le _, fun k hk => absurd hk (Nat.not_lt_zero _)⟩
      · intro pl' pn' h1 h2
        refine h pl' pn' ?_ (fun j Q hj hQ => h2 j Q hj (pf_PA_fr2 hQ hj 0))
        rw [eQ, ← pf_cl_end bl _ _ h5 g5 hsg]
        exact h1
    · refine ⟨vi, vi, nm_r (e' := nI (g i) - nI (s i)) (by rw [es, eg]) (br_f (Int32.not_le.mpr (pk_sneg (by omega) (by omega))) ⟨1, br_t (by decide) (h pl (upd pn i 0) ?_ (fun j Q hj hQ => pf_PA_fr2 hQ hj 0))⟩)⟩
      rw [eQ, pf_tabE _ h5 _ (by omega)]
      exact ⟨pk_us, Nat.zero_le _, fun k hk => absurd hk (Nat.not_lt_zero _)⟩
  · refine xt_addPath (k := 0) hi (by decide) pk_us (h _ _ ?_ (fun j Q hj hQ => pf_PA_fr (pf_PA_fr2 hQ hj 0) hj 0 (by decide) _ _))
    have eQ : pf_Q bl s g c i = [0] := by
      rw [pf_Q, pf_PL, if_neg (by omega)]
      simp [pf_mask]
    rw [eQ]
    exact pf_PA_s (Q := []) (i := i) (pl := pl) (pn := upd pn i 0) ⟨pk_us, Nat.zero_le _, fun k hk => absurd hk (Nat.not_lt_zero _)⟩ (by decide) 0
theorem xt_addFamily {post : SX → Prop} {pl pn fp fc : Nat → Int32} {a b c d : Nat} {E : List (List Nat)} (hE : E.length < 490) (hF : pf_Fam E fp fc)
    (h : ∀ fp' fc', pf_Fam (E ++ [[d, c, b, a]]) fp' fc' → post (bc, ec, nI (E.length + 1), ld, wt, sr, gr, pl, pn, fp', fc')) : wpX_addFamily post (bc, ec, nI E.length, ld, wt, sr, gr, pl, pn, fp, fc) (nI a) (nI b) (nI c) (nI d) := by
  have e4 : (4 : Int32) * nI E.length = nI (4 * E.length) := by rw [show (4 : Int32) = nI 4 from rfl, pk_mul]
  have c0 : (nI (4 * E.length)).toNatClampNeg = 4 * E.length := nI_clamp (by omega)
  have c1 : (nI (4 * E.length) + 1).toNatClampNeg = 4 * E.length + 1 := by rw [nI_1, nI_clamp (by omega)]
  have c2 : (nI (4 * E.length) + 2).toNatClampNeg = 4 * E.length + 2 := by rw [show nI (4 * E.length) + 2 = nI (4 * E.length + 2) from nI_add _ 2, nI_clamp (by omega)]
  have c3 : (nI (4 * E.length) + 3).toNatClampNeg = 4 * E.length + 3 := by rw [show nI (4 * E.length) + 3 = nI (4 * E.length + 3) from nI_add _ 3, nI_clamp (by omega)]
  have v0 : vp_in (nI (4 * E.length)) 1960 := vp_in_nI (by omega) (by decide)
  have v1 : vp_in (nI (4 * E.length) + 1) 1960 := by rw [nI_1]; exact vp_in_nI (by omega) (by decide)
  have v2 : vp_in (nI (4 * E.length) + 2) 1960 := by rw [show nI (4 * E.length) + 2 = nI (4 * E.length + 2) from nI_add _ 2]; exact vp_in_nI (by omega) (by decide)
  have v3 : vp_in (nI (4 * E.length) + 3) 1960 := by rw [show nI (4 * E.length) + 3 = nI (4 * E.length + 3) from nI_add _ 3]; exact vp_in_nI (by omega) (by decide)
  have cE : (nI E.length).toNatClampNeg = E.length := nI_clamp (by omega)
  refine br_f (nI_ge (b := 490) hE (by decide)) (nm_r e4 ⟨v0, nm_r (by rw [c0]) ⟨v1, nm_r (by rw [c1]) ⟨v2, nm_r (by rw [c2]) ⟨v3, nm_r (by rw [c3]) ⟨vp_in_nI hE (by decide), nm_r (e' := upd fc E.length (nI (a ||| b ||| c ||| d))) (by rw [cE, pf_or, pf_or, pf_or]) (nm_r (nI_1 E.length) (h _ _ (pf_Fam_s hF a b c d)))⟩⟩⟩⟩⟩)
theorem xt_39 {post : SX → Prop} {J : Int32 → Int32 → Int32 → Int32 → Int32 → (Nat → Int32) → (Nat → Int32) → (Nat → Int32) → (Nat → Int32) → (Nat → Int32) → (Nat → Int32) → (Nat → Int32) → Prop} {pl pn : Nat → Int32} {Q3 : List Nat} (hQ : pf_PA Q3 3 pl pn) (hb : ∀ m, m ∈ Q3 → m < 2 ^ 30) {a b c : Nat} {x : Int32} :
    ∀ (R : List Nat) (k : Nat) (E : List (List Nat)) (fp fc : Nat → Int32), Q3.drop k = R → k ≤ Q3.length → pf_Fam E fp fc → E.length + (R.flatMap (pf_f3 a b c)).length ≤ 490 →
      (∀ fp' fc', pf_Fam (E ++ R.flatMap (pf_f3 a b c)) fp' fc' → J (x + 1) bc ec (nI (E ++ R.flatMap (pf_f3 a b c)).length) ld wt sr gr pl pn fp' fc') →
      wX_listFamiliesWith_39 post J (nI a) (nI b) x (nI c) (R.length + 1) (nI k) bc ec (nI E.length) ld wt sr gr pl pn fp fc := by
  obtain ⟨q1, q2, q3⟩ := hQ
  intro R
  induction R with
  | nil =>
    intro k E fp fc hR hkl hF hl h
    have hk := pf_drop0 hR
    rw [List.flatMap_nil, List.append_nil] at h
    exact pk_le Q3.length k (fun _ => nm_e (h fp fc hF)) (fun z => absurd z (by omega)) q1 rfl (by omega) (by omega)
  | cons d R ih =>
    intro k E fp fc hR hkl hF hl h
    obtain ⟨hk, hd, hR', hm⟩ := pf_drop hR
    have ek : (378 : Int32) + nI k = nI (126 * 3 + k) := nI_add 378 k
    have ck : (nI (126 * 3 + k)).toNatClampNeg = 126 * 3 + k := nI_clamp (by omega)
    have hpl := q3 k hk
    rw [hd] at hpl
    have hdb := hb d hm
    rw [List.flatMap_cons, List.length_append] at hl
    refine pk_le Q3.length k (fun z => absurd z (by omega)) (fun _ => ?_) q1 rfl (by omega) (by omega)
    refine ⟨by rw [ek]; exact vp_in_nI (by omega) (by decide), nm_r (e' := nI d) (by rw [ek, ck]; exact hpl) ?_⟩
    rw [pf_or, pf_or]
    by_cases h0 : (a ||| b ||| c) &&& d = 0
    · have e3 : pf_f3 a b c d = [[d, c, b, a]] := if_pos h0
      rw [e3] at hl
      have hl1 : [[d, c, b, a]].length = 1 := rfl
      refine br_t ((pf_and0I hdb).mpr h0) (xt_addFamily (by omega) hF (fun fp' fc' hF' => nm_r (nI_1 k) ?_))
      have hlen : (E ++ [[d, c, b, a]]).length = E.length + 1 := by rw [List.length_append]; rfl
      have := ih (k + 1) (E ++ [[d, c, b, a]]) fp' fc' hR' hk hF' (by omega) (by
        intro fp2 fc2 h2
        rw [List.append_assoc, ← e3, ← List.flatMap_cons] at h2 ⊢
        exact h fp2 fc2 h2)
      rw [hlen] at this
      exact this
    · have e3 : pf_f3 a b c d = [] := if_neg h0
      rw [e3] at hl
      have hl1 : ([] : List (List Nat)).length = 0 := rfl
      refine br_f (fun z => h0 ((pf_and0I hdb).mp z)) (nm_r (nI_1 k) (ih (k + 1) E fp fc hR' hk hF (by omega) ?_))
      intro fp2 fc2 h2
      rw [List.flatMap_cons, e3, List.nil_append] at h
      exact h fp2 fc2 h2
theorem xt_2 {post : SX → Prop} {pl pn : Nat → Int32} {Q2 Q3 : List Nat} (hQ2 : pf_PA Q2 2 pl pn) (hQ3 : pf_PA Q3 3 pl pn) (hb2 : ∀ m, m ∈ Q2 → m < 2 ^ 30) (hb3 : ∀ m, m ∈ Q3 → m < 2 ^ 30) {a b : Nat} :
    ∀ (R : List Nat) (k : Nat) (E : List (List Nat)) (fp fc : Nat → Int32), Q2.drop k = R → k ≤ Q2.length → pf_Fam E fp fc → E.length + (R.flatMap (pf_f2 Q3 a b)).length ≤ 490 →
      (∀ fp' fc', pf_Fam (E ++ R.flatMap (pf_f2 Q3 a b)) fp' fc' → post (bc, ec, nI (E ++ R.flatMap (pf_f2 Q3 a b)).length, ld, wt, sr, gr, pl, pn, fp', fc')) →
      wX_listFamiliesWith_2 post (nI a) (nI b) (R.length + 1) (nI k) bc ec (nI E.length) ld wt sr gr pl pn fp fc := by
  obtain ⟨q1, q2, q3⟩ := hQ2
  intro R
  induction R with
  | nil =>
    intro k E fp fc hR hkl hF hl h
    have hk := pf_drop0 hR
    rw [List.flatMap_nil, List.append_nil] at h
    exact pk_le Q2.length k (fun _ => h fp fc hF) (fun z => absurd z (by omega)) q1 rfl (by omega) (by omega)
  | cons d R ih =>
    intro k E fp fc hR hkl hF hl h
    obtain ⟨hk, hd, hR', hm⟩ := pf_drop hR
    have ek : (252 : Int32) + nI k = nI (126 * 2 + k) := nI_add 252 k
    have ck : (nI (126 * 2 + k)).toNatClampNeg = 126 * 2 + k := nI_clamp (by omega)
    have hpl := q3 k hk
    rw [hd] at hpl
    have hdb := hb2 d hm
    rw [List.flatMap_cons, List.length_append] at hl
    refine pk_le Q2.length k (fun z => absurd z (by omega)) (fun _ => ?_) q1 rfl (by omega) (by omega)
    refine ⟨by rw [ek]; exact vp_in_nI (by omega) (by decide), nm_r (e' := nI d) (by rw [ek, ck]; exact hpl) ?_⟩
    rw [pf_or]
    by_cases h0 : (a ||| b) &&& d = 0
    · have e3 : pf_f2 Q3 a b d = Q3.flatMap (pf_f3 a b d) := if_pos h0
      rw [e3] at hl
      refine br_t ((pf_and0I hdb).mpr h0) ⟨Q3.length + 1, xt_39 hQ3 hb3 Q3 0 E fp fc rfl (Nat.zero_le _) hF (by omega) (fun fp' fc' hF' => ?_)⟩
      rw [nI_1]
      refine ih (k + 1) (E ++ Q3.flatMap (pf_f3 a b d)) fp' fc' hR' hk hF' (by rw [List.length_append]; omega) (fun fp2 fc2 h2 => ?_)
      rw [List.append_assoc, ← e3, ← List.flatMap_cons] at h2 ⊢
      exact h fp2 fc2 h2
    · have e3 : pf_f2 Q3 a b d = [] := if_neg h0
      rw [e3] at hl
      have hl1 : ([] : List (List Nat)).length = 0 := rfl
      refine br_f (fun z => h0 ((pf_and0I hdb).mp z)) (nm_r (nI_1 k) (ih (k + 1) E fp fc hR' hk hF (by omega) ?_))
      intro fp2 fc2 h2
      rw [List.flatMap_cons, e3, List.nil_append] at h
      exact h fp2 fc2 h2
theorem xt_26 {post : SX → Prop} {J : Int32 → Int32 → Int32 → Int32 → Int32 → (Nat → Int32) → (Nat → Int32) → (Nat → Int32) → (Nat → Int32) → (Nat → Int32) → (Nat → Int32) → (Nat → Int32) → Prop} {pl pn : Nat → Int32} {Q1 Q2 Q3 : List Nat} (hQ1 : pf_PA Q1 1 pl pn) (hQ2 : pf_PA Q2 2 pl pn) (hQ3 : pf_PA Q3 3 pl pn) (hb1 : ∀ m, m ∈ Q1 → m < 2 ^ 30) (hb2 : ∀ m, m ∈ Q2 → m < 2 ^ 30) (hb3 : ∀ m, m ∈ Q3 → m < 2 ^ 30) {a : Nat} {x : Int32} :
    ∀ (R : List Nat) (k : Nat) (E : List (List Nat)) (fp fc : Nat → Int32), Q1.drop k = R → k ≤ Q1.length → pf_Fam E fp fc → E.length + (R.flatMap (pf_f1 Q2 Q3 a)).length ≤ 490 →
      (∀ fp' fc', pf_Fam (E ++ R.flatMap (pf_f1 Q2 Q3 a)) fp' fc' → J (x + 1) bc ec (nI (E ++ R.flatMap (pf_f1 Q2 Q3 a)).length) ld wt sr gr pl pn fp' fc') →
      wX_listFamilies_26 post J x (nI a) (R.length + 1) (nI k) bc ec (nI E.length) ld wt sr gr pl pn fp fc := by
  obtain ⟨q1, q2, q3⟩ := hQ1
  intro R
  induction R with
  | nil =>
    intro k E fp fc hR hkl hF hl h
    have hk := pf_drop0 hR
    rw [List.flatMap_nil, List.append_nil] at h
    exact pk_le Q1.length k (fun _ => nm_e (h fp fc hF)) (fun z => absurd z (by omega)) q1 rfl (by omega) (by omega)
  | cons d R ih =>
    intro k E fp fc hR hkl hF hl h
    obtain ⟨hk, hd, hR', hm⟩ := pf_drop hR
    have ek : (126 : Int32) + nI k = nI (126 * 1 + k) := nI_add 126 k
    have ck : (nI (126 * 1 + k)).toNatClampNeg = 126 * 1 + k := nI_clamp (by omega)
    have hpl := q3 k hk
    rw [hd] at hpl
    have hdb := hb1 d hm
    rw [List.flatMap_cons, List.length_append] at hl
    refine pk_le Q1.length k (fun z => absurd z (by omega)) (fun _ => ?_) q1 rfl (by omega) (by omega)
    refine ⟨by rw [ek]; exact vp_in_nI (by omega) (by decide), nm_r (e' := nI d) (by rw [ek, ck]; exact hpl) ?_⟩
    by_cases h0 : a &&& d = 0
    · have e3 : pf_f1 Q2 Q3 a d = Q2.flatMap (pf_f2 Q3 a d) := if_pos h0
      rw [e3] at hl
      refine br_t ((pf_and0I hdb).mpr h0) ⟨Q2.length + 1, xt_2 hQ2 hQ3 hb2 hb3 Q2 0 E fp fc rfl (Nat.zero_le _) hF (by omega) (fun fp' fc' hF' => nm_r (nI_1 k) ?_)⟩
      refine ih (k + 1) (E ++ Q2.flatMap (pf_f2 Q3 a d)) fp' fc' hR' hk hF' (by rw [List.length_append]; omega) (fun fp2 fc2 h2 => ?_)
      rw [List.append_assoc, ← e3, ← List.flatMap_cons] at h2 ⊢
      exact h fp2 fc2 h2
    · have e3 : pf_f1 Q2 Q3 a d = [] := if_neg h0
      rw [e3] at hl
      have hl1 : ([] : List (List Nat)).length = 0 := rfl
      refine br_f (fun z => h0 ((pf_and0I hdb).mp z)) (nm_r (nI_1 k) (ih (k + 1) E fp fc hR' hk hF (by omega) ?_))
      intro fp2 fc2 h2
      rw [List.flatMap_cons, e3, List.nil_append] at h
      exact h fp2 fc2 h2
theorem xt_7 {post : SX → Prop} {pl pn : Nat → Int32} {Q0 Q1 Q2 Q3 : List Nat} (hQ0 : pf_PA Q0 0 pl pn) (hQ1 : pf_PA Q1 1 pl pn) (hQ2 : pf_PA Q2 2 pl pn) (hQ3 : pf_PA Q3 3 pl pn) (hb1 : ∀ m, m ∈ Q1 → m < 2 ^ 30) (hb2 : ∀ m, m ∈ Q2 → m < 2 ^ 30) (hb3 : ∀ m, m ∈ Q3 → m < 2 ^ 30) :
    ∀ (R : List Nat) (k : Nat) (E : List (List Nat)) (fp fc : Nat → Int32), Q0.drop k = R → k ≤ Q0.length → pf_Fam E fp fc → E.length + (R.flatMap (pf_f0 Q1 Q2 Q3)).length ≤ 490 →
      (∀ fp' fc', pf_Fam (E ++ R.flatMap (pf_f0 Q1 Q2 Q3)) fp' fc' → post (bc, ec, nI (E ++ R.flatMap (pf_f0 Q1 Q2 Q3)).length, ld, wt, sr, gr, pl, pn, fp', fc')) →
      wX_listFamilies_7 post (R.length + 1) (nI k) bc ec (nI E.length) ld wt sr gr pl pn fp fc := by
  obtain ⟨q1, q2, q3⟩ := hQ0
  intro R
  induction R with
  | nil =>
    intro k E fp fc hR hkl hF hl h
    have hk := pf_drop0 hR
    rw [List.flatMap_nil, List.append_nil] at h
    exact pk_le Q0.length k (fun _ => h fp fc hF) (fun z => absurd z (by omega)) q1 rfl (by omega) (by omega)
  | cons d R ih =>
    intro k E fp fc hR hkl hF hl h
    obtain ⟨hk, hd, hR', hm⟩ := pf_drop hR
    have ck : (nI k).toNatClampNeg = k := nI_clamp (by omega)
    have hpl := q3 k hk
    rw [hd, Nat.mul_zero, Nat.zero_add] at hpl
    rw [List.flatMap_cons, List.length_append] at hl
    refine pk_le Q0.length k (fun z => absurd z (by omega)) (fun _ => ?_) q1 rfl (by omega) (by omega)
    refine ⟨vp_in_nI (by omega) (by decide), nm_r (e' := nI d) (by rw [ck]; exact hpl) ⟨Q1.length + 1, xt_26 hQ1 hQ2 hQ3 hb1 hb2 hb3 Q1 0 E fp fc rfl (Nat.zero_le _) hF ?_ (fun fp' fc' hF' => ?_)⟩⟩
    · exact Nat.le_trans (Nat.add_le_add_left (Nat.le_add_right _ _) _) hl
    · rw [nI_1]
      refine ih (k + 1) (E ++ Q1.flatMap (pf_f1 Q2 Q3 d)) fp' fc' hR' hk hF' ?_ (fun fp2 fc2 h2 => ?_)
      · rw [List.length_append]
        have e0 : pf_f0 Q1 Q2 Q3 d = Q1.flatMap (pf_f1 Q2 Q3 d) := rfl
        rw [e0] at hl
        omega
      · have e0 : Q1.flatMap (pf_f1 Q2 Q3 d) = pf_f0 Q1 Q2 Q3 d := rfl
        rw [List.append_assoc, e0, ← List.flatMap_cons] at h2 ⊢
        exact h fp2 fc2 h2
theorem xt_listFamilies {post : SX → Prop} {pl pn fp fc : Nat → Int32} {Q : Nat → List Nat} (hQ : ∀ i, i < 4 → pf_PA (Q i) i pl pn) (hb : ∀ i, ∀ m, m ∈ Q i → m < 2 ^ 30) (hl : (pf_G Q 4 0 0 []).length ≤ 490)
    (h : ∀ fp' fc', pf_Fam (pf_G Q 4 0 0 []) fp' fc' → post (bc, ec, nI (pf_G Q 4 0 0 []).length, ld, wt, sr, gr, pl, pn, fp', fc')) : wpX_listFamilies post (bc, ec, fn, ld, wt, sr, gr, pl, pn, fp, fc) := by
  rw [pf_G4] at hl h
  refine ⟨(Q 0).length + 1, xt_7 (hQ 0 (by decide)) (hQ 1 (by decide)) (hQ 2 (by decide)) (hQ 3 (by decide)) (hb 1) (hb 2) (hb 3) (Q 0) 0 [] fp fc rfl (Nat.zero_le _) (pf_Fam_0 fp fc) ?_ ?_⟩
  · rw [List.length_nil, Nat.zero_add]; exact hl
  · intro fp' fc' hF
    rw [List.nil_append] at hF ⊢
    exact h fp' fc' hF
theorem xt_la_l {post : SX → Prop} {fp fc : Nat → Int32} {bl c : Nat} {s g : Nat → Nat} (hbl : bl < 2 ^ 30) (hc : c ≤ 4) (hs : ∀ i, i < c → s i < 5) (hg : ∀ i, i < c → g i < 5) (hsr : ∀ i, i < c → sr i = nI (s i)) (hgr : ∀ i, i < c → gr i = nI (g i)) (hl : (pf_F bl s g c 0 []).length ≤ 490)
    (h : ∀ pl' pn' fp' fc', pf_Fam ((pf_F bl s g c 0 []).map (pf_mks 4)) fp' fc' → post (nI bl, nI c, nI (pf_F bl s g c 0 []).length, ld, wt, sr, gr, pl', pn', fp', fc')) :
    ∀ (e i : Nat) (pl pn : Nat → Int32), i + e = 4 → (∀ j, j < i → pf_PA (pf_Q bl s g c j) j pl pn) → wX_listAnew_8 post (e + 1) (nI i) (nI bl) (nI c) fn ld wt sr gr pl pn fp fc := by
  intro e
  induction e with
  | zero =>
    intro i pl pn hi hP
    have ei : i = 4 := by omega
    subst ei
    refine br_t (nI_le (a := 4) (b := 4) (Nat.le_refl _) (by decide)) (xt_listFamilies (Q := pf_Q bl s g c) hP (fun i => pf_Q_lt hs hg i) ?_ ?_)
    · rw [← pf_F_G bl s g c hc, List.length_map]; exact hl
    · intro fp' fc' hF
      rw [← pf_F_G bl s g c hc] at hF ⊢
      rw [List.length_map]
      exact h pl pn fp' fc' hF
  | succ e ih =>
    intro i pl pn hi hP
    refine br_f (nI_ge (b := 4) (by omega) (by decide)) (xt_listPaths hbl hc (by omega) hs hg hsr hgr (fun pl' pn' h1 h2 => nm_r (nI_1 i) (ih (i + 1) pl' pn' (by omega) ?_)))
    intro j hj
    by_cases e1 : j = i
    · subst e1; exact h1
    · exact h2 j _ e1 (hP j (by omega))
theorem xt_listAnew {post : SX → Prop} {pl pn fp fc : Nat → Int32} {bl c : Nat} {s g : Nat → Nat} (hbl : bl < 2 ^ 30) (hc : c ≤ 4) (hs : ∀ i, i < c → s i < 5) (hg : ∀ i, i < c → g i < 5) (hsr : ∀ i, i < c → sr i = nI (s i)) (hgr : ∀ i, i < c → gr i = nI (g i)) (hl : (pf_F bl s g c 0 []).length ≤ 490)
    (h : ∀ pl' pn' fp' fc', pf_Fam ((pf_F bl s g c 0 []).map (pf_mks 4)) fp' fc' → post (nI bl, nI c, nI (pf_F bl s g c 0 []).length, -4, wt, sr, gr, pl', pn', fp', fc')) : wpX_listAnew post (nI bl, nI c, fn, ld, wt, sr, gr, pl, pn, fp, fc) :=
  ⟨5, xt_la_l hbl hc hs hg hsr hgr hl h 4 0 pl pn rfl (fun j hj => absurd hj (Nat.not_lt_zero _))⟩
end
end
section
/-! Y's walker -/
theorem yt_b1 : vp_nar .boolean 1 = 1 := rfl
theorem yt_b0 : vp_nar .boolean 0 = 0 := rfl
theorem yt_bit {x bl : Nat} {b : Nat → Int32} (h : pf_bk bl b) (hx : x < 30) : (b x = 0 ↔ ¬ bl.testBit x = true) := by
  rw [h x hx]
  by_cases hb : bl.testBit x = true
  · rw [if_pos hb]; exact ⟨fun z => absurd z (by decide), fun z => absurd hb z⟩
  · rw [if_neg hb]; exact ⟨fun _ => hb, fun _ => rfl⟩
theorem yt_tbit {x : Nat} {S : List (Nat × Nat × Nat)} {b : Nat → Int32} (h : pf_tk S b) (hx : x < 30) : (b x = 0 ↔ ¬ (pf_ms (pf_st S)).testBit x = true) := by
  rw [h x hx]
  by_cases hb : (pf_ms (pf_st S)).testBit x = true
  · rw [if_pos hb]; exact ⟨fun z => absurd z (by decide), fun z => absurd hb z⟩
  · rw [if_neg hb]; exact ⟨fun _ => hb, fun _ => rfl⟩
theorem yt_tk_push {x i : Nat} {S : List (Nat × Nat × Nat)} {tk : Nat → Int32} (h : pf_tk S tk) : pf_tk ((x, i, 0) :: S) (upd tk x 1) := by
  intro y hy
  show upd tk x 1 y = if (2 ^ x ||| pf_ms (pf_st S)).testBit y = true then 1 else 0
  rw [Nat.testBit_or, Nat.testBit_two_pow]
  by_cases e : y = x
  · subst e
    rw [pk_us, decide_eq_true rfl, Bool.true_or, if_pos rfl]
  · rw [pk_un e, decide_eq_false (fun z => e z.symm), Bool.false_or]
    exact h y hy
theorem yt_tk_t {p q : Nat × Nat × Nat} {S : List (Nat × Nat × Nat)} {tk : Nat → Int32} (h : pf_tk (p :: S) tk) (e : p.1 = q.1) : pf_tk (q :: S) tk := by
  intro y hy
  have := h y hy
  have e2 : pf_ms (pf_st (p :: S)) = pf_ms (pf_st (q :: S)) := by
    show 2 ^ p.1 ||| pf_ms (pf_st S) = 2 ^ q.1 ||| pf_ms (pf_st S)
    rw [e]
  rw [e2] at this
  exact this
theorem yt_tk_pop {c x i t : Nat} {S : List (Nat × Nat × Nat)} {tk : Nat → Int32} (hk : pf_Ok c ((x, i, t) :: S)) (h : pf_tk ((x, i, t) :: S) tk) : pf_tk S (upd tk x 0) := by
  intro y hy
  have h2 := hk.2.1
  rw [List.map_cons, List.nodup_cons] at h2
  by_cases e : y = x
  · subst e
    rw [pk_us, pf_st_bit, decide_eq_false h2.1]
    rfl
  · rw [pk_un e, h y hy]
    show (if (2 ^ x ||| pf_ms (pf_st S)).testBit y = true then (1 : Int32) else 0) = _
    rw [Nat.testBit_or, Nat.testBit_two_pow, decide_eq_false (fun z => e z.symm), Bool.false_or]
section
variable {ct gn rk lo : Int32} {bk wt st gl wy kp ko : Nat → Int32}
theorem yt_step {post : SY → Prop} {wk ow tr tk : Nat → Int32} {bl x i : Nat} {S : List (Nat × Nat × Nat)} (hb : pf_bk bl bk) (ht : pf_tk S tk) (hr : pf_rep wk ow tr S) (hS : S.length < 40) (hx : x < 30)
    (h : ∀ wk' ow' tr' tk', pf_rep wk' ow' tr' (pf_step bl x i S) → pf_tk (pf_step bl x i S) tk' → post (ct, nI (pf_step bl x i S).length, rk, lo, bk, wt, st, gl, wk', ow', tr', tk', wy, kp, ko)) : wpY_step post (ct, nI S.length, rk, lo, bk, wt, st, gl, wk, ow, tr, tk, wy, kp, ko) (nI x) (nI i) := by
  have cx : (nI x).toNatClampNeg = x := nI_clamp (by omega)
  have vx : vp_in (nI x) 30 := vp_in_nI hx (by decide)
  have cg : (nI S.length).toNatClampNeg = S.length := nI_clamp (by omega)
  have vg : vp_in (nI S.length) 40 := vp_in_nI hS (by decide)
  have eb : bk (nI x).toNatClampNeg = 0 ↔ ¬ bl.testBit x = true := by rw [cx]; exact yt_bit hb hx
  have et : tk (nI x).toNatClampNeg = 0 ↔ ¬ (pf_ms (pf_st S)).testBit x = true := by rw [cx]; exact yt_tbit ht hx
  rw [pf_step] at h
  by_cases h1 : bl.testBit x = true
  · rw [if_pos (Or.inl h1)] at h
    exact ⟨vx, br_f (fun z => eb.mp z h1) (h wk ow tr tk hr ht)⟩
  · by_cases h2 : (pf_ms (pf_st S)).testBit x = true
    · rw [if_pos (Or.inr h2)] at h
      exact ⟨vx, br_t (eb.mpr h1) ⟨vx, br_f (fun z => et.mp z h2) (h wk ow tr tk hr ht)⟩⟩
    · rw [if_neg (fun z => z.elim h1 h2)] at h
      refine ⟨vx, br_t (eb.mpr h1) ⟨vx, br_t (et.mpr h2) ⟨vg, nm_r (e' := upd wk S.length (nI x)) (by rw [cg]) ⟨vg, nm_r (e' := upd ow S.length (nI i)) (by rw [cg]) ⟨vg, nm_r (e' := upd tr S.length (nI 0)) (by rw [cg]; rfl) ⟨vx, nm_r (e' := upd tk x 1) (by rw [cx, yt_b1]) (nm_r (nI_1 S.length) (h _ _ _ _ ?_ (yt_tk_push ht)))⟩⟩⟩⟩⟩⟩
      refine ⟨pk_us, pk_us, pk_us, pf_rep_fr S ?_ hr⟩
      intro k hk
      exact ⟨pk_un (by omega), pk_un (by omega), pk_un (by omega)⟩
theorem yt_goOn {post : SY → Prop} {wk ow tr tk : Nat → Int32} {bl c : Nat} {s g : Nat → Nat} {S : List (Nat × Nat × Nat)} (hc : c ≤ 4) (hs : ∀ i, i < c → s i < 5) (hg : ∀ i, i < c → g i < 5) (hst : ∀ i, i < c → st i = nI (s i)) (hgl : ∀ i, i < c → gl i = nI (25 + g i))
    (hb : pf_bk bl bk) (ht : pf_tk S tk) (hr : pf_rep wk ow tr S) (hk : pf_Ok c S) (hS : S ≠ [])
    (h : ∀ wk' ow' tr' tk', pf_rep wk' ow' tr' (pf_go bl s g c S) → pf_tk (pf_go bl s g c S) tk' → post (nI c, nI (pf_go bl s g c S).length, rk, lo, bk, wt, st, gl, wk', ow', tr', tk', wy, kp, ko)) : wpY_goOn post (nI c, nI S.length, rk, lo, bk, wt, st, gl, wk, ow, tr, tk, wy, kp, ko) := by
  cases S with
  | nil => exact absurd rfl hS
  | cons p S =>
    obtain ⟨x, i, t⟩ := p
    have hlen := pf_Ok_len hk
    have hlen' : S.length + 1 ≤ 30 := hlen
    have hp := hk.2.2 _ (List.mem_cons_self ..)
    have hx : x < 30 := hp.1
    have hi : i < c := hp.2.1
    have ht2 : t ≤ 2 := hp.2.2
    have hgi := hg i hi
    obtain ⟨r1, r2, r3, r4⟩ := hr
    have r1' : wk S.length = nI x := r1
    have r2' : ow S.length = nI i := r2
    have r3' : tr S.length = nI t := r3
    have eg : nI ((x, i, t) :: S).length - 1 = nI S.length := nI_pred S.length
    have cg : (nI S.length).toNatClampNeg = S.length := nI_clamp (by omega)
    have vg : vp_in (nI S.length) 40 := vp_in_nI (by omega) (by decide)
    have ci : (nI i).toNatClampNeg = i := nI_clamp (by omega)
    have vi : vp_in (nI i) 4 := vp_in_nI (by omega) (by decide)
    have egl : gl (nI i).toNatClampNeg = nI (25 + g i) := by rw [ci]; exact hgl i hi
    have n5 : ¬ (5 : Int32) = 0 := by decide
    have hrep : pf_rep wk ow (upd tr S.length (nI (t + 1))) ((x, i, t + 1) :: S) := by
      refine ⟨r1', r2', pk_us, pf_rep_fr S ?_ r4⟩
      intro k hk'
      exact ⟨rfl, rfl, pk_un (by omega)⟩
    have htk : pf_tk ((x, i, t + 1) :: S) tk := yt_tk_t ht rfl
    have hl1 : ((x, i, t + 1) :: S).length = S.length + 1 := rfl
    have hl0 : ((x, i, t) :: S).length = S.length + 1 := rfl
    rw [pf_go] at h
    refine ⟨by rw [eg]; exact vg, nm_r (e' := nI x) (by rw [eg, cg]; exact r1') ⟨by rw [eg]; exact vg, nm_r (e' := nI i) (by rw [eg, cg]; exact r2') ⟨by rw [eg]; exact vg, nm_r (e' := nI t) (by rw [eg, cg]; exact r3') ⟨by rw [eg]; exact vg, nm_r (e' := upd tr S.length (nI (t + 1))) (by rw [eg, cg, nI_1]) ?_⟩⟩⟩⟩
    refine pk_eq t 2 (fun e2 => ?_) (fun e2 => ?_) rfl rfl (by omega) (by omega)
    · rw [if_pos e2] at h
      refine nm_r eg ⟨vg, ?_⟩
      have cw : (wk (nI S.length).toNatClampNeg) = nI x := by rw [cg]; exact r1'
      have cx : (nI x).toNatClampNeg = x := nI_clamp (by omega)
      refine ⟨by rw [cw]; exact vp_in_nI hx (by decide), nm_r (e' := upd tk x 0) (by rw [cw, cx, yt_b0]) (h wk ow _ _ ?_ (yt_tk_pop hk ht))⟩
      exact hrep.2.2.2
    · rw [if_neg e2] at h
      refine ⟨vi, ?_⟩
      rw [egl]
      refine pk_eq x (25 + g i) (fun eG => ?_) (fun eG => ?_) rfl rfl (by omega) (by omega)
      · rw [if_pos eG] at h
        refine pk_eq t 0 (fun e0 => ?_) (fun e0 => ?_) rfl rfl (by omega) (by omega)
        · rw [nI_1]
          refine pk_le c (i + 1) (fun hci => ?_) (fun hci => ?_) rfl rfl (by omega) (by omega)
          · rw [if_neg (fun z => absurd z.2 (by omega))] at h
            exact h wk ow _ tk hrep htk
          · rw [if_pos ⟨e0, hci⟩] at h
            have ci1 : (nI (i + 1)).toNatClampNeg = i + 1 := nI_clamp (by omega)
            have es : st (nI (i + 1)).toNatClampNeg = nI (s (i + 1)) := by rw [ci1]; exact hst (i + 1) hci
            refine ⟨vp_in_nI (by omega) (by decide), ?_⟩
            rw [es]
            exact yt_step (S := (x, i, t + 1) :: S) hb htk hrep (by omega) (by have := hs (i + 1) hci; omega) h
        · rw [if_neg (fun z => e0 z.1)] at h
          exact h wk ow _ tk hrep htk
      · rw [if_neg eG] at h
        refine pk_eq t 0 (fun e0 => ?_) (fun e0 => ?_) rfl rfl (by omega) (by omega)
        · rw [if_pos e0] at h
          refine pk_le 25 x (fun h25 => ?_) (fun h25 => ?_) rfl rfl (by omega) (by omega)
          · rw [if_neg (by omega)] at h
            exact h wk ow _ tk hrep htk
          · rw [if_pos h25] at h
            rw [show nI x + 5 = nI (x + 5) from nI_add x 5]
            exact yt_step (S := (x, i, t + 1) :: S) hb htk hrep (by omega) (by omega) h
        · rw [if_neg e0] at h
          refine ⟨n5, vi, n5, ?_⟩
          rw [show nI (25 + g i) - nI (25 + g i) / 5 * 5 = nI ((25 + g i) % 5) from pk_rem (d := 5) (by omega) (by decide) (by decide), show nI x - nI x / 5 * 5 = nI (x % 5) from pk_rem (d := 5) (by omega) (by decide) (by decide)]
          refine pk_le ((25 + g i) % 5) (x % 5) (fun h5 => ?_) (fun h5 => ?_) rfl rfl (by omega) (by omega)
          · rw [if_neg (by omega)] at h
            exact h wk ow _ tk hrep htk
          · rw [if_pos h5] at h
            rw [nI_1]
            exact yt_step (S := (x, i, t + 1) :: S) hb htk hrep (by omega) (by omega) h
theorem yt_complete {post : Int32 → Prop} {wk ow tr tk : Nat → Int32} {c : Nat} {g : Nat → Nat} {S : List (Nat × Nat × Nat)} (hc0 : 0 < c) (hc : c ≤ 4) (hg : ∀ i, i < c → g i < 5) (hgl : ∀ i, i < c → gl i = nI (25 + g i))
    (hr : pf_rep wk ow tr S) (hk : pf_Ok c S) (hS : S ≠ []) (h1 : pf_cm g c S → post 1) (h0 : ¬ pf_cm g c S → post 0) : wpY_complete post (nI c, nI S.length, rk, lo, bk, wt, st, gl, wk, ow, tr, tk, wy, kp, ko) := by
  cases S with
  | nil => exact absurd rfl hS
  | cons p S =>
    obtain ⟨x, i, t⟩ := p
    have hlen := pf_Ok_len hk
    have hlen' : S.length + 1 ≤ 30 := hlen
    have hp := hk.2.2 _ (List.mem_cons_self ..)
    have hx : x < 30 := hp.1
    have hi : i < c := hp.2.1
    have ht2 : t ≤ 2 := hp.2.2
    have hgi := hg (c - 1) (by omega)
    obtain ⟨r1, r2, r3, r4⟩ := hr
    have r1' : wk S.length = nI x := r1
    have r2' : ow S.length = nI i := r2
    have r3' : tr S.length = nI t := r3
    have eg : nI ((x, i, t) :: S).length - 1 = nI S.length := nI_pred S.length
    have ec : nI c - 1 = nI (c - 1) := pk_sub (b := 1) hc0
    have cg : (nI S.length).toNatClampNeg = S.length := nI_clamp (by omega)
    have vg : vp_in (nI S.length) 40 := vp_in_nI (by omega) (by decide)
    have cc : (nI (c - 1)).toNatClampNeg = c - 1 := nI_clamp (by omega)
    have hgc := hgl (c - 1) (by omega)
    unfold wpY_complete
    dsimp only
    rw [eg, ec, cg, cc, r1', r2', r3', hgc]
    refine ⟨vg, vp_in_nI (by omega) (by decide), ?_⟩
    refine pk_eq x (25 + g (c - 1)) (fun e1 => ⟨vg, ?_⟩) (fun e1 => h0 (fun z => e1 z.1)) rfl rfl (by omega) (by omega)
    refine pk_eq i (c - 1) (fun e2 => ⟨vg, ?_⟩) (fun e2 => h0 (fun z => e2 z.2.1)) rfl rfl (by omega) (by omega)
    exact pk_eq t 0 (fun e3 => h1 ⟨e1, e2, e3⟩) (fun e3 => h0 (fun z => e3 z.2.2)) rfl rfl (by omega) (by omega)
/-- where a call of nextFamily leaves the walker, when the walks of L are still to come -/
def pf_At (bl : Nat) (s g : Nat → Nat) (c : Nat) (L : List (List (Nat × Nat))) (r : Int32) (gn : Int32) (wk ow tr tk : Nat → Int32) : Prop :=
  (r = 0 ∧ L = []) ∨ (r = 1 ∧ ∃ S L', L = pf_st S :: L' ∧ pf_Ok c S ∧ S ≠ [] ∧ gn = nI S.length ∧ pf_rep wk ow tr S ∧ pf_tk S tk ∧ pf_T bl s g c (pf_go bl s g c S) L')
theorem yt_next_l {post : Int32 → SY → Prop} {bl c : Nat} {s g : Nat → Nat} (hc0 : 0 < c) (hc : c ≤ 4) (hs : ∀ i, i < c → s i < 5) (hg : ∀ i, i < c → g i < 5) (hst : ∀ i, i < c → st i = nI (s i)) (hgl : ∀ i, i < c → gl i = nI (25 + g i)) (hb : pf_bk bl bk)
    {L : List (List (Nat × Nat))} (h : ∀ r gn' wk' ow' tr' tk', pf_At bl s g c L r gn' wk' ow' tr' tk' → post r (nI c, gn', rk, lo, bk, wt, st, gl, wk', ow', tr', tk', wy, kp, ko)) :
    ∀ (n : Nat) (S : List (Nat × Nat × Nat)) (wk ow tr tk : Nat → Int32), pf_Tr bl s g c n S L → pf_Ok c S → pf_rep wk ow tr S → pf_tk S tk → wY_nextFamily_8 post n (nI c) (nI S.length) rk lo bk wt st gl wk ow tr tk wy kp ko := by
  intro n
  induction n with
  | zero => intro S wk ow tr tk hT; exact absurd hT (fun z => z)
  | succ n ih =>
    intro S wk ow tr tk hT hk hr ht
    rcases hT with ⟨e1, e2⟩ | ⟨hS, hcm, L', eL, hT⟩ | ⟨hS, hcm, hT⟩
    · subst e1
      exact br_t (by decide) (h 0 _ wk ow tr tk (Or.inl ⟨rfl, e2⟩))
    · have hpos : 0 < S.length := List.length_pos_iff.mpr hS
      have hlen := pf_Ok_len hk
      refine br_f (nI_nle hpos (by omega)) (yt_complete hc0 hc hg hgl hr hk hS (fun _ => br_f (by decide) (h 1 _ wk ow tr tk (Or.inr ⟨rfl, S, L', eL, hk, hS, rfl, hr, ht, n, hT⟩))) (fun z => absurd hcm z))
    · have hpos : 0 < S.length := List.length_pos_iff.mpr hS
      have hlen := pf_Ok_len hk
      refine br_f (nI_nle hpos (by omega)) (yt_complete hc0 hc hg hgl hr hk hS (fun z => absurd z hcm) (fun _ => br_t rfl (yt_goOn hc hs hg hst hgl hb ht hr hk hS (fun wk' ow' tr' tk' hr' ht' => ih _ wk' ow' tr' tk' hT (pf_Ok_go hs hg hk) hr' ht'))))
theorem yt_next0 {post : Int32 → SY → Prop} {wk ow tr tk : Nat → Int32} {bl c : Nat} {s g : Nat → Nat} (hc0 : 0 < c) (hc : c ≤ 4) (hs : ∀ i, i < c → s i < 5) (hg : ∀ i, i < c → g i < 5) (hst : ∀ i, i < c → st i = nI (s i)) (hgl : ∀ i, i < c → gl i = nI (25 + g i)) (hb : pf_bk bl bk)
    {L : List (List (Nat × Nat))} {S : List (Nat × Nat × Nat)} (hT : pf_T bl s g c (pf_go bl s g c S) L) (hk : pf_Ok c S) (hS : S ≠ []) (hr : pf_rep wk ow tr S) (ht : pf_tk S tk)
    (h : ∀ r gn' wk' ow' tr' tk', pf_At bl s g c L r gn' wk' ow' tr' tk' → post r (nI c, gn', rk, lo, bk, wt, st, gl, wk', ow', tr', tk', wy, kp, ko)) : wpY_nextFamily post (nI c, nI S.length, rk, lo, bk, wt, st, gl, wk, ow, tr, tk, wy, kp, ko) 0 := by
  obtain ⟨n, hn⟩ := hT
  exact br_t rfl (yt_goOn hc hs hg hst hgl hb ht hr hk hS (fun wk' ow' tr' tk' hr' ht' => ⟨n, yt_next_l hc0 hc hs hg hst hgl hb h n _ wk' ow' tr' tk' hn (pf_Ok_go hs hg hk) hr' ht'⟩))
theorem yt_next1 {post : Int32 → SY → Prop} {wk ow tr tk : Nat → Int32} {bl c : Nat} {s g : Nat → Nat} (hc0 : 0 < c) (hc : c ≤ 4) (hs : ∀ i, i < c → s i < 5) (hg : ∀ i, i < c → g i < 5) (hst : ∀ i, i < c → st i = nI (s i)) (hgl : ∀ i, i < c → gl i = nI (25 + g i)) (hb : pf_bk bl bk)
    {L : List (List (Nat × Nat))} {S : List (Nat × Nat × Nat)} (hT : pf_T bl s g c S L) (hk : pf_Ok c S) (hr : pf_rep wk ow tr S) (ht : pf_tk S tk)
    (h : ∀ r gn' wk' ow' tr' tk', pf_At bl s g c L r gn' wk' ow' tr' tk' → post r (nI c, gn', rk, lo, bk, wt, st, gl, wk', ow', tr', tk', wy, kp, ko)) : wpY_nextFamily post (nI c, nI S.length, rk, lo, bk, wt, st, gl, wk, ow, tr, tk, wy, kp, ko) 1 := by
  obtain ⟨n, hn⟩ := hT
  exact br_f (by decide) ⟨n, yt_next_l hc0 hc hs hg hst hgl hb h n S wk ow tr tk hn hk hr ht⟩
theorem yt_begin {post : SY → Prop} {wk ow tr tk : Nat → Int32} {bl c : Nat} {s : Nat → Nat} (hc0 : 0 < c) (hs : ∀ i, i < c → s i < 5) (hst : ∀ i, i < c → st i = nI (s i)) (hb : pf_bk bl bk)
    (h : ∀ wk' ow' tr' tk', pf_rep wk' ow' tr' (pf_step bl (s 0) 0 []) → pf_tk (pf_step bl (s 0) 0 []) tk' → post (ct, nI (pf_step bl (s 0) 0 []).length, rk, lo, bk, wt, st, gl, wk', ow', tr', tk', wy, kp, ko)) : wpY_begin post (ct, gn, rk, lo, bk, wt, st, gl, wk, ow, tr, tk, wy, kp, ko) := by
  have h0 := hst 0 hc0
  have h5 := hs 0 hc0
  refine loop_0 (fun n i (tk : Nat → Int32) => wY_begin_7 post ct 0 rk lo n (nI i) bk wt st gl wk ow tr tk wy kp ko) (fun i tk => ∀ x, x < i → tk x = 0) 30 tk (fun x hx => absurd hx (Nat.not_lt_zero _)) ?_ ?_
  · intro n tk htk
    refine br_t xt_30 ?_
    rw [h0]
    exact yt_step (S := []) (i := 0) hb (fun x hx => by rw [htk x hx]; show (0 : Int32) = if (0 : Nat).testBit x = true then 1 else 0; rw [Nat.zero_testBit]; rfl) trivial (by decide) (by omega) h
  · intro n i tk hi htk hn
    refine br_f (xt_in30 hi) ⟨vp_in_nI hi (by decide), nm_r (e' := upd tk i 0) (by rw [nI_clamp (by omega), yt_b0]) (nm_r (nI_1 i) (hn _ ?_))⟩
    intro x hx
    by_cases e : x = i
    · subst e; exact pk_us
    · rw [pk_un e]; exact htk x (by omega)
end
end
section
/-! Y's answers over the list of walks -/
def pf_YC (bl c : Nat) (s g : Nat → Nat) (bk st gl : Nat → Int32) : Prop :=
  0 < c ∧ c ≤ 4 ∧ (∀ i, i < c → s i < 5) ∧ (∀ i, i < c → g i < 5) ∧ (∀ i, i < c → st i = nI (s i)) ∧ (∀ i, i < c → gl i = nI (25 + g i)) ∧ pf_bk bl bk
def pf_sw (w : Nat → Int32) : List (List (Nat × Nat)) → Int32 → Int32
  | [], a => a
  | V :: L, a => pf_sw w L (a + pf_xp w (pf_ms V) 30)
def pf_c2 (a b : Nat) : List (List (Nat × Nat)) → Nat → Nat
  | [], k => k
  | V :: L, k => pf_c2 a b L (if (pf_ms V).testBit a = true ∧ (pf_ms V).testBit b = true then k + 1 else k)
theorem pf_c2_le (a b : Nat) : ∀ (L : List (List (Nat × Nat))) (k : Nat), pf_c2 a b L k ≤ k + L.length := by
  intro L
  induction L with
  | nil => intro k; exact Nat.le_refl _
  | cons V L ih =>
    intro k
    rw [pf_c2, List.length_cons]
    by_cases h : (pf_ms V).testBit a = true ∧ (pf_ms V).testBit b = true
    · rw [if_pos h]; have := ih (k + 1); omega
    · rw [if_neg h]; have := ih k; omega
theorem pf_c2_all (a : Nat) : ∀ (L : List (List (Nat × Nat))) (k : Nat), pf_c2 a a L k = k + L.length ↔ ∀ V, V ∈ L → (pf_ms V).testBit a = true := by
  intro L
  induction L with
  | nil => intro k; exact ⟨fun _ V hV => absurd hV (by simp), fun _ => rfl⟩
  | cons V L ih =>
    intro k
    rw [pf_c2, List.length_cons]
    by_cases h : (pf_ms V).testBit a = true
    · rw [if_pos ⟨h, h⟩, show k + (L.length + 1) = (k + 1) + L.length by omega, ih (k + 1)]
      constructor
      · intro e V' hV'
        rcases List.mem_cons.mp hV' with e1 | e1
        · rw [e1]; exact h
        · exact e V' e1
      · intro e V' hV'
        exact e V' (List.mem_cons_of_mem _ hV')
    · rw [if_neg (fun z => h z.1)]
      have := pf_c2_le a a L k
      constructor
      · intro e; omega
      · intro e; exact absurd (e V (List.mem_cons_self ..)) h
theorem pf_At_nil {bl : Nat} {s g : Nat → Nat} {c : Nat} {r gn : Int32} {wk ow tr tk : Nat → Int32} (h : pf_At bl s g c [] r gn wk ow tr tk) : r = 0 := by
  rcases h with ⟨e, _⟩ | ⟨_, S, L', e, _⟩
  · exact e
  · cases e
theorem pf_At_cons {bl : Nat} {s g : Nat → Nat} {c : Nat} {V : List (Nat × Nat)} {L : List (List (Nat × Nat))} {r gn : Int32} {wk ow tr tk : Nat → Int32} (h : pf_At bl s g c (V :: L) r gn wk ow tr tk) :
    r = 1 ∧ ∃ S, V = pf_st S ∧ pf_Ok c S ∧ S ≠ [] ∧ gn = nI S.length ∧ pf_rep wk ow tr S ∧ pf_tk S tk ∧ pf_T bl s g c (pf_go bl s g c S) L := by
  rcases h with ⟨_, e⟩ | ⟨e, S, L', eL, h⟩
  · cases e
  · injection eL with e1 e2
    subst e2
    exact ⟨e, S, e1, h⟩
section
variable {ct gn rk lo : Int32} {bk wt st gl wy kp ko : Nat → Int32}
theorem yt_start {post : Int32 → SY → Prop} {wk ow tr tk : Nat → Int32} {bl c : Nat} {s g : Nat → Nat} (C : pf_YC bl c s g bk st gl)
    (h : ∀ r gn' wk' ow' tr' tk', pf_At bl s g c (pf_F bl s g c 0 []) r gn' wk' ow' tr' tk' → post r (nI c, gn', rk, lo, bk, wt, st, gl, wk', ow', tr', tk', wy, kp, ko)) :
    wpY_begin (fun u => wpY_nextFamily post u 1) (nI c, gn, rk, lo, bk, wt, st, gl, wk, ow, tr, tk, wy, kp, ko) := by
  obtain ⟨hc0, hc, hs, hg, hst, hgl, hb⟩ := C
  refine yt_begin hc0 hs hst hb (fun wk' ow' tr' tk' hr ht => ?_)
  exact yt_next1 hc0 hc hs hg hst hgl hb (pf_dfs bl s g c hc0 hs) (pf_Ok_begin hc0 hs) hr ht h
theorem yt_nx {post : Int32 → SY → Prop} {wk ow tr tk : Nat → Int32} {bl c : Nat} {s g : Nat → Nat} (C : pf_YC bl c s g bk st gl)
    {L : List (List (Nat × Nat))} {S : List (Nat × Nat × Nat)} (hT : pf_T bl s g c (pf_go bl s g c S) L) (hk : pf_Ok c S) (hS : S ≠ []) (hr : pf_rep wk ow tr S) (ht : pf_tk S tk)
    (h : ∀ r gn' wk' ow' tr' tk', pf_At bl s g c L r gn' wk' ow' tr' tk' → post r (nI c, gn', rk, lo, bk, wt, st, gl, wk', ow', tr', tk', wy, kp, ko)) : wpY_nextFamily post (nI c, nI S.length, rk, lo, bk, wt, st, gl, wk, ow, tr, tk, wy, kp, ko) 0 := by
  obtain ⟨hc0, hc, hs, hg, hst, hgl, hb⟩ := C
  exact yt_next0 hc0 hc hs hg hst hgl hb hT hk hS hr ht h
theorem yt_fam_l {post : Int32 → SY → Prop} {bl c : Nat} {s g : Nat → Nat} (C : pf_YC bl c s g bk st gl) :
    ∀ (L : List (List (Nat × Nat))) (k : Nat) (r gn : Int32) (wk ow tr tk : Nat → Int32), pf_At bl s g c L r gn wk ow tr tk →
      (∀ gn' wk' ow' tr' tk', post (nI (k + L.length)) (nI c, gn', rk, lo, bk, wt, st, gl, wk', ow', tr', tk', wy, kp, ko)) → wY_families_12 post (L.length + 1) (nI k) r (nI c) gn rk lo bk wt st gl wk ow tr tk wy kp ko := by
  intro L
  induction L with
  | nil =>
    intro k r gn wk ow tr tk hA h
    have e := pf_At_nil hA
    subst e
    exact br_t rfl (h gn wk ow tr tk)
  | cons V L ih =>
    intro k r gn wk ow tr tk hA h
    obtain ⟨e, S, eV, hk, hS, eg, hr, ht, hT⟩ := pf_At_cons hA
    subst e eg
    refine br_f (by decide) (nm_r (nI_1 k) (yt_nx C hT hk hS hr ht (fun r' gn' wk' ow' tr' tk' hA' => ih (k + 1) r' gn' wk' ow' tr' tk' hA' ?_)))
    rw [show k + 1 + L.length = k + (V :: L).length by simp; omega]
    exact h
theorem yt_families {post : Int32 → SY → Prop} {wk ow tr tk : Nat → Int32} {bl c : Nat} {s g : Nat → Nat} (C : pf_YC bl c s g bk st gl)
    (h : ∀ gn' wk' ow' tr' tk', post (nI (pf_F bl s g c 0 []).length) (nI c, gn', rk, lo, bk, wt, st, gl, wk', ow', tr', tk', wy, kp, ko)) : wpY_families post (nI c, gn, rk, lo, bk, wt, st, gl, wk, ow, tr, tk, wy, kp, ko) := by
  refine yt_start (gn := gn) C (fun r gn' wk' ow' tr' tk' hA => ⟨_, yt_fam_l C _ 0 r gn' wk' ow' tr' tk' hA ?_⟩)
  rw [Nat.zero_add]
  exact h
theorem yt_s21 {post : Int32 → SY → Prop} {J : Int32 → Int32 → Int32 → Int32 → Int32 → Int32 → (Nat → Int32) → (Nat → Int32) → (Nat → Int32) → (Nat → Int32) → (Nat → Int32) → (Nat → Int32) → (Nat → Int32) → (Nat → Int32) → (Nat → Int32) → (Nat → Int32) → (Nat → Int32) → Prop}
    {wk ow tr tk : Nat → Int32} {x1 : Int32} {n : Nat} (hn : n ≤ 30) : ∀ (R : List (Nat × Nat)) (k : Nat) (acc : Int32), pf_lay wk ow R k → k + R.length = n → (∀ p, p ∈ R → p.1 < 30) →
      wpY_nextFamily (fun r u => J (x1 + pf_fl wt acc (R.map (fun p => p.1))) r u.1 u.2.1 u.2.2.1 u.2.2.2.1 u.2.2.2.2.1 u.2.2.2.2.2.1 u.2.2.2.2.2.2.1 u.2.2.2.2.2.2.2.1 u.2.2.2.2.2.2.2.2.1 u.2.2.2.2.2.2.2.2.2.1 u.2.2.2.2.2.2.2.2.2.2.1 u.2.2.2.2.2.2.2.2.2.2.2.1 u.2.2.2.2.2.2.2.2.2.2.2.2.1 u.2.2.2.2.2.2.2.2.2.2.2.2.2.1 u.2.2.2.2.2.2.2.2.2.2.2.2.2.2) (ct, nI n, rk, lo, bk, wt, st, gl, wk, ow, tr, tk, wy, kp, ko) 0 →
      wY_sum_21 post J x1 ct (nI n) rk lo bk wt st gl wk ow tr tk wy kp ko (R.length + 1) acc (nI k) := by
  intro R
  induction R with
  | nil =>
    intro k acc _ hk _ h
    have hk' : k = n := hk
    subst hk'
    exact br_t (nI_le (Nat.le_refl _) (by omega)) (nm_e h)
  | cons p R ih =>
    intro k acc hl hk hp h
    obtain ⟨h1, h2, h3⟩ := hl
    rw [List.length_cons] at hk
    have hp0 := hp p (List.mem_cons_self ..)
    have ck : (nI k).toNatClampNeg = k := nI_clamp (by omega)
    have cw : wk (nI k).toNatClampNeg = nI p.1 := by rw [ck]; exact h1
    have cp : (nI p.1).toNatClampNeg = p.1 := nI_clamp (by omega)
    exact br_f (nI_ge (by omega) (by omega)) ⟨vp_in_nI (by omega) (by decide), by rw [cw]; exact vp_in_nI hp0 (by decide), nm_r (e' := acc * wt p.1) (by rw [cw, cp]) (nm_r (nI_1 k) (ih (k + 1) (acc * wt p.1) h3 (by omega) (fun q hq => hp q (List.mem_cons_of_mem _ hq)) h))⟩
theorem yt_sum_l {post : Int32 → SY → Prop} {bl c : Nat} {s g : Nat → Nat} (C : pf_YC bl c s g bk st gl) :
    ∀ (L : List (List (Nat × Nat))) (a : Int32) (r gn : Int32) (wk ow tr tk : Nat → Int32), pf_At bl s g c L r gn wk ow tr tk →
      (∀ gn' wk' ow' tr' tk', post (pf_sw wt L a) (nI c, gn', rk, lo, bk, wt, st, gl, wk', ow', tr', tk', wy, kp, ko)) → wY_sum_12 post (L.length + 1) a r (nI c) gn rk lo bk wt st gl wk ow tr tk wy kp ko := by
  intro L
  induction L with
  | nil =>
    intro a r gn wk ow tr tk hA h
    have e := pf_At_nil hA
    subst e
    exact br_t rfl (h gn wk ow tr tk)
  | cons V L ih =>
    intro a r gn wk ow tr tk hA h
    obtain ⟨e, S, eV, hk, hS, eg, hr, ht, hT⟩ := pf_At_cons hA
    subst e eg
    have hlen := pf_Ok_len hk
    have el : (pf_st S).reverse.length = S.length := by rw [List.length_reverse, pf_st, List.length_map]
    refine br_f (by decide) ⟨_, yt_s21 hlen (pf_st S).reverse 0 1 (pf_rep_lay S hr) (by rw [el, Nat.zero_add]) (fun p hp => (pf_st_mem hk p (List.mem_reverse.mp hp)).1) ?_⟩
    rw [← pf_weight hk wt]
    refine yt_nx C hT hk hS hr ht (fun r' gn' wk' ow' tr' tk' hA' => ih _ r' gn' wk' ow' tr' tk' hA' ?_)
    rw [pf_sw, eV] at h
    exact h
theorem yt_sum {post : Int32 → SY → Prop} {wk ow tr tk : Nat → Int32} {bl c : Nat} {s g : Nat → Nat} (C : pf_YC bl c s g bk st gl)
    (h : ∀ gn' wk' ow' tr' tk', post (pf_sw wt (pf_F bl s g c 0 []) 0) (nI c, gn', rk, lo, bk, wt, st, gl, wk', ow', tr', tk', wy, kp, ko)) : wpY_sum post (nI c, gn, rk, lo, bk, wt, st, gl, wk, ow, tr, tk, wy, kp, ko) :=
  yt_start (gn := gn) C (fun r gn' wk' ow' tr' tk' hA => ⟨_, yt_sum_l C _ 0 r gn' wk' ow' tr' tk' hA h⟩)
theorem yt_tb_l {post : Int32 → SY → Prop} {bl c a b : Nat} {s g : Nat → Nat} (C : pf_YC bl c s g bk st gl) (ha : a < 30) (hb : b < 30) :
    ∀ (L : List (List (Nat × Nat))) (k : Nat) (r gn : Int32) (wk ow tr tk : Nat → Int32), pf_At bl s g c L r gn wk ow tr tk →
      (∀ gn' wk' ow' tr' tk', post (nI (pf_c2 a b L k)) (nI c, gn', rk, lo, bk, wt, st, gl, wk', ow', tr', tk', wy, kp, ko)) → wY_throughBoth_31 post (nI a) (nI b) (L.length + 1) (nI k) r (nI c) gn rk lo bk wt st gl wk ow tr tk wy kp ko := by
  have ca : (nI a).toNatClampNeg = a := nI_clamp (by omega)
  have cb : (nI b).toNatClampNeg = b := nI_clamp (by omega)
  have va : vp_in (nI a) 30 := vp_in_nI ha (by decide)
  have vb : vp_in (nI b) 30 := vp_in_nI hb (by decide)
  intro L
  induction L with
  | nil =>
    intro k r gn wk ow tr tk hA h
    have e := pf_At_nil hA
    subst e
    exact br_t rfl (h gn wk ow tr tk)
  | cons V L ih =>
    intro k r gn wk ow tr tk hA h
    obtain ⟨e, S, eV, hk, hS, eg, hr, ht, hT⟩ := pf_At_cons hA
    subst e eg
    have ea : tk (nI a).toNatClampNeg = 0 ↔ ¬ (pf_ms (pf_st S)).testBit a = true := by rw [ca]; exact yt_tbit ht ha
    have eb : tk (nI b).toNatClampNeg = 0 ↔ ¬ (pf_ms (pf_st S)).testBit b = true := by rw [cb]; exact yt_tbit ht hb
    rw [pf_c2, eV] at h
    have go : ∀ k' : Nat, (∀ gn' wk' ow' tr' tk', post (nI (pf_c2 a b L k')) (nI c, gn', rk, lo, bk, wt, st, gl, wk', ow', tr', tk', wy, kp, ko)) → wY_throughBoth_57 post (wY_throughBoth_31 post (nI a) (nI b) (L.length + 1)) (nI a) (nI b) (nI k') (nI c) (nI S.length) rk lo bk wt st gl wk ow tr tk wy kp ko :=
      fun k' h' => yt_nx C hT hk hS hr ht (fun r' gn' wk' ow' tr' tk' hA' => ih k' r' gn' wk' ow' tr' tk' hA' h')
    by_cases h1 : (pf_ms (pf_st S)).testBit a = true
    · by_cases h2 : (pf_ms (pf_st S)).testBit b = true
      · rw [if_pos ⟨h1, h2⟩] at h
        exact br_f (by decide) ⟨va, br_f (fun z => ea.mp z h1) ⟨vb, br_f (fun z => eb.mp z h2) (nm_r (nI_1 k) (go (k + 1) h))⟩⟩
      · rw [if_neg (fun z => h2 z.2)] at h
        exact br_f (by decide) ⟨va, br_f (fun z => ea.mp z h1) ⟨vb, br_t (eb.mpr h2) (go k h)⟩⟩
    · rw [if_neg (fun z => h1 z.1)] at h
      exact br_f (by decide) ⟨va, br_t (ea.mpr h1) (go k h)⟩
theorem yt_noCell_f {post : Int32 → Prop} {wk ow tr tk : Nat → Int32} {x : Nat} (hx : x < 30) (h : post 0) : wpY_noCell post (ct, gn, rk, lo, bk, wt, st, gl, wk, ow, tr, tk, wy, kp, ko) (nI x) :=
  br_f (nI_pos (by omega)) (br_t (nI_le (b := 29) (by omega) (by decide)) h)
theorem yt_29 {p : Int32} (h : 30 ≤ p) : ¬ p ≤ 29 := by
  intro z
  exact absurd (Int32.le_trans h z) (by decide)
theorem yt_noCell_t {post : Int32 → Prop} {wk ow tr tk : Nat → Int32} {p : Int32} (hp : p < 0 ∨ 30 ≤ p) (h : post 1) : wpY_noCell post (ct, gn, rk, lo, bk, wt, st, gl, wk, ow, tr, tk, wy, kp, ko) p :=
  br_c (fun _ => h) (fun hn => br_f (yt_29 (hp.resolve_left hn)) h)
theorem yt_throughBoth {post : Int32 → SY → Prop} {wk ow tr tk : Nat → Int32} {bl c a b : Nat} {s g : Nat → Nat} (C : pf_YC bl c s g bk st gl) (ha : a < 30) (hb : b < 30)
    (h : ∀ gn' wk' ow' tr' tk', post (nI (pf_c2 a b (pf_F bl s g c 0 []) 0)) (nI c, gn', rk, lo, bk, wt, st, gl, wk', ow', tr', tk', wy, kp, ko)) : wpY_throughBoth post (nI c, gn, rk, lo, bk, wt, st, gl, wk, ow, tr, tk, wy, kp, ko) (nI a) (nI b) := by
  unfold wpY_throughBoth
  dsimp only
  refine yt_noCell_f ha ?_
  refine br_t rfl ?_
  refine yt_noCell_f hb ?_
  refine br_t rfl ?_
  exact yt_start (gn := gn) C (fun r gn' wk' ow' tr' tk' hA => ⟨_, yt_tb_l C ha hb _ 0 r gn' wk' ow' tr' tk' hA h⟩)
theorem yt_musts_l {post : Int32 → SY → Prop} {bl c n : Nat} {s g : Nat → Nat} (C : pf_YC bl c s g bk st gl) (hn0 : 0 < n) (hn : n ≤ 490) (eN : (pf_F bl s g c 0 []).length = n)
    (h : ∀ gn' wk' ow' tr' tk', post (nI (pf_ct (fun x => decide (pf_c2 x x (pf_F bl s g c 0 []) 0 = n)) 30)) (nI c, gn', rk, lo, bk, wt, st, gl, wk', ow', tr', tk', wy, kp, ko)) :
    ∀ (e x : Nat) (gn : Int32) (wk ow tr tk : Nat → Int32), x + e = 30 → wY_musts_9 post (nI n) (e + 1) (nI (pf_ct (fun x => decide (pf_c2 x x (pf_F bl s g c 0 []) 0 = n)) x)) (nI x) (nI c) gn rk lo bk wt st gl wk ow tr tk wy kp ko := by
  intro e
  induction e with
  | zero =>
    intro x gn wk ow tr tk hx
    have ex : x = 30 := by omega
    subst ex
    exact br_t xt_30 (h gn wk ow tr tk)
  | succ e ih =>
    intro x gn wk ow tr tk hx
    have hle := pf_c2_le x x (pf_F bl s g c 0 []) 0
    refine br_f (xt_in30 (by omega)) (br_f (nI_nle hn0 (by omega)) (yt_throughBoth C (by omega) (by omega) (fun gn' wk' ow' tr' tk' => ?_)))
    refine pk_eq (pf_c2 x x (pf_F bl s g c 0 []) 0) n (fun e1 => ?_) (fun e1 => ?_) rfl rfl (by omega) (by omega)
    · have := ih (x + 1) gn' wk' ow' tr' tk' (by omega)
      rw [pf_ct, if_pos (decide_eq_true e1)] at this
      exact nm_r (nI_1 _) (nm_r (nI_1 x) this)
    · have := ih (x + 1) gn' wk' ow' tr' tk' (by omega)
      rw [pf_ct, if_neg (fun z => e1 (of_decide_eq_true z)), Nat.add_zero] at this
      exact nm_r (nI_1 x) this
theorem yt_musts {post : Int32 → SY → Prop} {wk ow tr tk : Nat → Int32} {bl c : Nat} {s g : Nat → Nat} (C : pf_YC bl c s g bk st gl) (hn : (pf_F bl s g c 0 []).length ≤ 490)
    (h : ∀ gn' wk' ow' tr' tk', post (if (pf_F bl s g c 0 []).length = 0 then 0 else nI (pf_ct (fun x => decide (pf_c2 x x (pf_F bl s g c 0 []) 0 = (pf_F bl s g c 0 []).length)) 30)) (nI c, gn', rk, lo, bk, wt, st, gl, wk', ow', tr', tk', wy, kp, ko)) : wpY_musts post (nI c, gn, rk, lo, bk, wt, st, gl, wk, ow, tr, tk, wy, kp, ko) := by
  refine yt_families (gn := gn) C (fun gn' wk' ow' tr' tk' => ?_)
  by_cases h0 : (pf_F bl s g c 0 []).length = 0
  · rw [if_pos h0] at h
    refine ⟨1, ?_⟩
    rw [h0]
    exact br_f (by decide) (br_t (by decide) (h gn' wk' ow' tr' tk'))
  · rw [if_neg h0] at h
    exact ⟨31, yt_musts_l C (by omega) hn rfl h 30 0 gn' wk' ow' tr' tk' rfl⟩
theorem yt_62 {post : Int32 → SY → Prop} {wk ow tr tk : Nat → Int32} {n : Nat} (hn : n ≤ 30) (h : ∀ kp' ko', (∀ j, j < n → kp' j = wk j ∧ ko' j = ow j) → post 0 (ct, nI n, rk, lo, bk, wt, st, gl, wk, ow, tr, tk, wy, kp', ko')) : ∃ m, wY_load_62 post ct (nI n) rk lo m 0 bk wt st gl wk ow tr tk wy kp ko := by
  refine loop_0 (fun m i (q : (Nat → Int32) × (Nat → Int32)) => wY_load_62 post ct (nI n) rk lo m (nI i) bk wt st gl wk ow tr tk wy q.1 q.2) (fun i q => ∀ j, j < i → q.1 j = wk j ∧ q.2 j = ow j) n (kp, ko) (fun j hj => absurd hj (Nat.not_lt_zero _)) ?_ ?_
  · intro m q hq
    exact br_t (nI_le (Nat.le_refl _) (by omega)) (h q.1 q.2 hq)
  · intro m i q hi hq hm
    have ci : (nI i).toNatClampNeg = i := nI_clamp (by omega)
    have vi : vp_in (nI i) 40 := vp_in_nI (by omega) (by decide)
    refine br_f (nI_ge hi (by omega)) ⟨vi, vi, nm_r (e' := upd q.1 i (wk i)) (by rw [ci]) ⟨vi, vi, nm_r (e' := upd q.2 i (ow i)) (by rw [ci]) (nm_r (nI_1 i) (hm (upd q.1 i (wk i), upd q.2 i (ow i)) ?_))⟩⟩
    intro j hj
    by_cases e : j = i
    · subst e; exact ⟨pk_us, pk_us⟩
    · have := hq j (by omega)
      exact ⟨(pk_un e).trans this.1, (pk_un e).trans this.2⟩
theorem yt_load_l {post : Int32 → SY → Prop} {bl c N : Nat} {s g : Nat → Nat} (C : pf_YC bl c s g bk st gl) (hN : N < 2 ^ 31) :
    ∀ (L : List (List (Nat × Nat))) (k : Nat) (r gn : Int32) (wk ow tr tk : Nat → Int32), k ≤ N → pf_At bl s g c L r gn wk ow tr tk →
      (L[N - k]? = none → ∀ gn' wk' ow' tr' tk', post (-4) (nI c, gn', rk, lo, bk, wt, st, gl, wk', ow', tr', tk', wy, kp, ko)) →
      (∀ S, L[N - k]? = some (pf_st S) → pf_Ok c S → S ≠ [] → ∀ gn' wk' ow' tr' tk' kp' ko', pf_lay kp' ko' (pf_st S).reverse 0 → post 0 (nI c, gn', nI N, nI S.length, bk, wt, st, gl, wk', ow', tr', tk', wy, kp', ko')) →
      wY_load_19 post (nI N) (L.length + 1) r (nI k) (nI c) gn rk lo bk wt st gl wk ow tr tk wy kp ko := by
  intro L
  induction L with
  | nil =>
    intro k r gn wk ow tr tk hkN hA h1 h2
    have e := pf_At_nil hA
    subst e
    have := h1 (by simp) gn wk ow tr tk
    exact br_c (fun _ => br_t rfl this) (fun _ => br_t rfl (br_t rfl this))
  | cons V L ih =>
    intro k r gn wk ow tr tk hkN hA h1 h2
    obtain ⟨e, S, eV, hk, hS, eg, hr, ht, hT⟩ := pf_At_cons hA
    subst e eg
    refine pk_le N k (fun hNk => ?_) (fun hNk => ?_) rfl rfl (by omega) (by omega)
    · have ek : N - k = 0 := by omega
      rw [ek] at h2
      have hlen := pf_Ok_len hk
      refine br_f (by decide) (yt_62 hlen (fun kp' ko' hcp => h2 S (by rw [eV]; rfl) hk hS _ wk ow tr tk kp' ko' ?_))
      refine pf_lay_fr wk ow kp' ko' _ 0 (fun j hj => hcp j ?_) (pf_rep_lay S hr)
      rw [List.length_reverse, pf_st, List.length_map] at hj
      omega
    · refine br_f (by decide) (yt_nx C hT hk hS hr ht (fun r' gn' wk' ow' tr' tk' hA' => nm_r (nI_1 k) (ih (k + 1) r' gn' wk' ow' tr' tk' (by omega) hA' ?_ ?_)))
      · rw [show N - k = (N - (k + 1)) + 1 by omega, List.getElem?_cons_succ] at h1
        exact h1
      · rw [show N - k = (N - (k + 1)) + 1 by omega, List.getElem?_cons_succ] at h2
        exact h2
theorem yt_load {post : Int32 → SY → Prop} {wk ow tr tk : Nat → Int32} {bl c N : Nat} {s g : Nat → Nat} (C : pf_YC bl c s g bk st gl) (hN : N < 2 ^ 31)
    (h1 : (pf_F bl s g c 0 [])[N]? = none → ∀ gn' wk' ow' tr' tk', post (-4) (nI c, gn', rk, lo, bk, wt, st, gl, wk', ow', tr', tk', wy, kp, ko))
    (h2 : ∀ S, (pf_F bl s g c 0 [])[N]? = some (pf_st S) → pf_Ok c S → S ≠ [] → ∀ gn' wk' ow' tr' tk' kp' ko', pf_lay kp' ko' (pf_st S).reverse 0 → post 0 (nI c, gn', nI N, nI S.length, bk, wt, st, gl, wk', ow', tr', tk', wy, kp', ko')) :
    wpY_load post (nI c, gn, rk, lo, bk, wt, st, gl, wk, ow, tr, tk, wy, kp, ko) (nI N) :=
  br_t (nI_pos' hN) (yt_start (gn := gn) C (fun r gn' wk' ow' tr' tk' hA => ⟨_, yt_load_l C hN _ 0 r gn' wk' ow' tr' tk' (Nat.zero_le _) hA h1 h2⟩))
/-! Y's cell and weight of the loaded walk -/
theorem yt_cell_l {post : Int32 → Prop} {wk ow tr tk : Nat → Int32} {p0 p1 : Int32} {n : Nat} (hn : n ≤ 30) : ∀ (R : List (Nat × Nat)) (k d : Nat), pf_lay kp ko R k → k + R.length = n →
    post (pf_sel p1 ((R.filter (fun p => decide (nI p.2 = p0))).map (fun p => p.1)) d) → wY_cell_5 post p0 p1 ct gn rk (nI n) bk wt st gl wk ow tr tk wy kp ko (R.length + 1) (nI d) (nI k) := by
  intro R
  induction R with
  | nil =>
    intro k d _ hk h
    have hk' : k = n := hk
    subst hk'
    exact br_t (nI_le (Nat.le_refl _) (by omega)) h
  | cons p R ih =>
    intro k d hl hk h
    obtain ⟨h1, h2, h3⟩ := hl
    rw [List.length_cons] at hk
    have ck : (nI k).toNatClampNeg = k := nI_clamp (by omega)
    have co : ko (nI k).toNatClampNeg = nI p.2 := by rw [ck]; exact h2
    have vk : vp_in (nI k) 40 := vp_in_nI (by omega) (by decide)
    rw [List.filter_cons] at h
    by_cases hp : nI p.2 = p0
    · rw [if_pos (decide_eq_true hp), List.map_cons, pf_sel] at h
      by_cases hd : nI d = p1
      · rw [if_pos hd] at h
        exact br_f (nI_ge (by omega) (by omega)) ⟨vk, br_t (by rw [co]; exact hp) (br_t hd ⟨vk, by rw [ck, h1]; exact h⟩)⟩
      · rw [if_neg hd] at h
        exact br_f (nI_ge (by omega) (by omega)) ⟨vk, br_t (by rw [co]; exact hp) (br_f hd (nm_r (nI_1 d) (nm_r (nI_1 k) (ih (k + 1) (d + 1) h3 (by omega) h))))⟩
    · rw [if_neg (fun z => hp (of_decide_eq_true z))] at h
      exact br_f (nI_ge (by omega) (by omega)) ⟨vk, br_f (by rw [co]; exact hp) (nm_r (nI_1 k) (ih (k + 1) d h3 (by omega) h))⟩
theorem yt_lw_l {post : Int32 → Prop} {wk ow tr tk : Nat → Int32} {n : Nat} (hn : n ≤ 30) : ∀ (R : List (Nat × Nat)) (k : Nat) (acc : Int32), pf_lay kp ko R k → k + R.length = n → (∀ p, p ∈ R → p.1 < 30) →
    post (pf_fl wt acc (R.map (fun p => p.1))) → wY_loadedWeight_13 post ct gn rk (nI n) bk wt st gl wk ow tr tk wy kp ko (R.length + 1) acc (nI k) := by
  intro R
  induction R with
  | nil =>
    intro k acc _ hk _ h
    have hk' : k = n := hk
    subst hk'
    exact br_t (nI_le (Nat.le_refl _) (by omega)) h
  | cons p R ih =>
    intro k acc hl hk hp h
    obtain ⟨h1, h2, h3⟩ := hl
    rw [List.length_cons] at hk
    have hp0 := hp p (List.mem_cons_self ..)
    have ck : (nI k).toNatClampNeg = k := nI_clamp (by omega)
    have cw : kp (nI k).toNatClampNeg = nI p.1 := by rw [ck]; exact h1
    have cp : (nI p.1).toNatClampNeg = p.1 := nI_clamp (by omega)
    exact br_f (nI_ge (by omega) (by omega)) ⟨vp_in_nI (by omega) (by decide), by rw [cw]; exact vp_in_nI hp0 (by decide), nm_r (e' := acc * wt p.1) (by rw [cw, cp]) (nm_r (nI_1 k) (ih (k + 1) (acc * wt p.1) h3 (by omega) (fun q hq => hp q (List.mem_cons_of_mem _ hq)) h))⟩
end
end
section
/-! Y's table of ways, its sizes and ends -/
section
variable {ct gn rk lo : Int32} {bk wt st gl wk ow tr tk kp ko : Nat → Int32}
theorem yt_69 {post : Int32 → SY → Prop} {J : Int32 → (Nat → Int32) → (Nat → Int32) → (Nat → Int32) → (Nat → Int32) → (Nat → Int32) → (Nat → Int32) → (Nat → Int32) → (Nat → Int32) → (Nat → Int32) → (Nat → Int32) → (Nat → Int32) → Prop} {wy : Nat → Int32} {x1 x2 : Int32} {bl s x v : Nat} (hb : pf_bk bl bk) (hx : x < 30)
    (hw : ∀ y, y < x → wy y = nI (pf_wv bl s y)) (hv : wy x = nI v) (e : (if bl.testBit x = true then 0 else v) = pf_wv bl s x)
    (h : ∀ wy' : Nat → Int32, (∀ y, y < x + 1 → wy' y = nI (pf_wv bl s y)) → J (nI (x + 1)) bk wt st gl wk ow tr tk wy' kp ko) : wY_ways_69 post J x1 x2 (nI x) ct gn rk lo bk wt st gl wk ow tr tk wy kp ko := by
  have cx : (nI x).toNatClampNeg = x := nI_clamp (by omega)
  have vx : vp_in (nI x) 30 := vp_in_nI hx (by decide)
  have eb : bk (nI x).toNatClampNeg = 0 ↔ ¬ bl.testBit x = true := by rw [cx]; exact yt_bit hb hx
  by_cases h1 : bl.testBit x = true
  · rw [if_pos h1] at e
    refine ⟨vx, br_f (fun z => eb.mp z h1) ⟨vx, nm_r (e' := upd wy x 0) (by rw [cx]) (nm_r (nI_1 x) (h _ ?_))⟩⟩
    intro y hy
    by_cases ey : y = x
    · subst ey
      rw [pk_us, ← e]; rfl
    · rw [pk_un ey]; exact hw y (by omega)
  · rw [if_neg h1] at e
    refine ⟨vx, br_t (eb.mpr h1) (nm_r (nI_1 x) (h _ ?_))⟩
    intro y hy
    by_cases ey : y = x
    · subst ey
      rw [← e]; exact hv
    · exact hw y (by omega)
theorem yt_46 {post : Int32 → SY → Prop} {J : Int32 → (Nat → Int32) → (Nat → Int32) → (Nat → Int32) → (Nat → Int32) → (Nat → Int32) → (Nat → Int32) → (Nat → Int32) → (Nat → Int32) → (Nat → Int32) → (Nat → Int32) → (Nat → Int32) → Prop} {wy : Nat → Int32} {x1 x2 : Int32} {bl s x v : Nat} (hb : pf_bk bl bk) (hx : x < 30)
    (hw : ∀ y, y < x → wy y = nI (pf_wv bl s y)) (hv : wy x = nI v) (e : (if bl.testBit x = true then 0 else v + (if 0 < x % 5 then pf_wv bl s (x - 1) else 0)) = pf_wv bl s x)
    (h : ∀ wy' : Nat → Int32, (∀ y, y < x + 1 → wy' y = nI (pf_wv bl s y)) → J (nI (x + 1)) bk wt st gl wk ow tr tk wy' kp ko) : wY_ways_46 post J x1 x2 (nI x) ct gn rk lo bk wt st gl wk ow tr tk wy kp ko := by
  have cx : (nI x).toNatClampNeg = x := nI_clamp (by omega)
  have vx : vp_in (nI x) 30 := vp_in_nI hx (by decide)
  refine ⟨by decide, ?_⟩
  rw [show nI x - nI x / 5 * 5 = nI (x % 5) from pk_rem (d := 5) (by omega) (by decide) (by decide)]
  refine pk_le (x % 5) 0 (fun h0 => ?_) (fun h0 => ?_) rfl rfl (by omega) (by omega)
  · rw [if_neg (show ¬ 0 < x % 5 by omega), Nat.add_zero] at e
    exact yt_69 hb hx hw hv e h
  · rw [if_pos h0] at e
    have e1 : nI x - 1 = nI (x - 1) := pk_sub (b := 1) (by omega)
    have c1 : (nI (x - 1)).toNatClampNeg = x - 1 := nI_clamp (by omega)
    refine ⟨vx, by rw [e1]; exact vp_in_nI (by omega) (by decide), vx, nm_r (e' := upd wy x (nI (v + pf_wv bl s (x - 1)))) (by rw [e1, c1, cx, hv, hw (x - 1) (by omega), nI_add]) (yt_69 hb hx ?_ pk_us e h)⟩
    intro y hy
    rw [pk_un (by omega)]
    exact hw y hy
theorem yt_23 {post : Int32 → SY → Prop} {J : Int32 → (Nat → Int32) → (Nat → Int32) → (Nat → Int32) → (Nat → Int32) → (Nat → Int32) → (Nat → Int32) → (Nat → Int32) → (Nat → Int32) → (Nat → Int32) → (Nat → Int32) → (Nat → Int32) → Prop} {wy : Nat → Int32} {x1 x2 : Int32} {bl s x z : Nat} (hb : pf_bk bl bk) (hs : s < 5) (hx : x < 30)
    (hw : ∀ y, y < x → wy y = nI (pf_wv bl s y)) (ez : z = if x = s then 1 else 0)
    (h : ∀ wy' : Nat → Int32, (∀ y, y < x + 1 → wy' y = nI (pf_wv bl s y)) → J (nI (x + 1)) bk wt st gl wk ow tr tk wy' kp ko) : wY_ways_23 post J x1 x2 (nI x) (nI z) (nI x) ct gn rk lo bk wt st gl wk ow tr tk wy kp ko := by
  have cx : (nI x).toNatClampNeg = x := nI_clamp (by omega)
  have vx : vp_in (nI x) 30 := vp_in_nI hx (by decide)
  have e := (pf_wv_rec bl s x hs).symm
  rw [← ez] at e
  refine ⟨vx, nm_r (e' := upd wy x (nI z)) (by rw [cx]) ?_⟩
  have hw1 : ∀ y, y < x → upd wy x (nI z) y = nI (pf_wv bl s y) := by
    intro y hy
    rw [pk_un (by omega)]
    exact hw y hy
  refine pk_lt x 5 (fun h5 => ?_) (fun h5 => ?_) rfl rfl (by omega) (by omega)
  · rw [if_neg (show ¬ 5 ≤ x by omega), Nat.add_zero] at e
    exact yt_46 hb hx hw1 pk_us e h
  · rw [if_pos h5] at e
    have e5 : nI x - 5 = nI (x - 5) := pk_sub (b := 5) h5
    have c5 : (nI (x - 5)).toNatClampNeg = x - 5 := nI_clamp (by omega)
    refine ⟨vx, by rw [e5]; exact vp_in_nI (by omega) (by decide), vx, nm_r (e' := upd (upd wy x (nI z)) x (nI (z + pf_wv bl s (x - 5)))) (by rw [e5, c5, cx, pk_us, hw1 (x - 5) (by omega), nI_add]) (yt_46 hb hx ?_ pk_us e h)⟩
    intro y hy
    rw [pk_un (by omega)]
    exact hw1 y hy
theorem yt_ways {post : Int32 → SY → Prop} {wy : Nat → Int32} {bl s x : Nat} (hb : pf_bk bl bk) (hs : s < 5) (hx : x < 30) (h : ∀ wy', post (nI (pf_wv bl s x)) (ct, gn, rk, lo, bk, wt, st, gl, wk, ow, tr, tk, wy', kp, ko)) : wpY_ways post (ct, gn, rk, lo, bk, wt, st, gl, wk, ow, tr, tk, wy, kp, ko) (nI s) (nI x) := by
  have cx : (nI x).toNatClampNeg = x := nI_clamp (by omega)
  refine loop_0 (fun n i (wy : Nat → Int32) => wY_ways_2 post (nI s) (nI x) ct gn rk lo n (nI i) bk wt st gl wk ow tr tk wy kp ko) (fun i wy => ∀ y, y < i → wy y = nI (pf_wv bl s y)) 30 wy (fun y hy => absurd hy (Nat.not_lt_zero _)) ?_ ?_
  · intro n wy hw
    refine br_t xt_30 ⟨vp_in_nI hx (by decide), ?_⟩
    rw [cx, hw x hx]
    exact h wy
  · intro n i wy hi hw hn
    refine br_f (xt_in30 hi) (pk_eq i s (fun e => ?_) (fun e => ?_) rfl rfl (by omega) (by omega))
    · exact yt_23 (z := 1) hb hs hi hw (by rw [if_pos e]) (fun wy' hw' => hn wy' hw')
    · exact yt_23 (z := 0) hb hs hi hw (by rw [if_neg e]) (fun wy' hw' => hn wy' hw')
theorem yt_size {post : Int32 → Prop} {wy : Nat → Int32} {m : Nat} (hm : m < 2 ^ 31) (h : post (nI (pf_pb m 5))) : wpY_size post (ct, gn, rk, lo, bk, wt, st, gl, wk, ow, tr, tk, wy, kp, ko) (nI m) := by
  refine loop_0 (fun n i (s : Int32) => wY_size_4 post (nI m) ct gn rk lo bk wt st gl wk ow tr tk wy kp ko n s (nI i)) (fun i s => s = nI (pf_pb m i)) 5 0 rfl ?_ ?_
  · intro n s hs
    subst hs
    exact br_t (nI_le (a := 5) (b := 5) (Nat.le_refl _) (by decide)) h
  · intro n i s hi hs hn
    subst hs
    refine br_f (nI_ge (b := 5) hi (by decide)) (nm_r (e' := nI (pf_pb m (i + 1))) ?_ (nm_r (nI_1 i) (hn _ rfl)))
    rw [pf_bit hm (by omega), nI_add]
    rfl
end
/-! the rows of a set, one by one -/
def pf_lr (A r : Nat) : List Nat := (List.range r).filter (fun r => A.testBit r)
theorem pf_lr_s (A r : Nat) : pf_lr A (r + 1) = if A.testBit r = true then pf_lr A r ++ [r] else pf_lr A r := by
  rw [pf_lr, List.range_succ, List.filter_append]
  by_cases h : A.testBit r = true
  · rw [if_pos h]; simp [pf_lr, h]
  · rw [if_neg h]; simp [pf_lr, h]
theorem pf_lr_len (A : Nat) : ∀ r k, (pf_lr A r).length ≤ (pf_lr A (r + k)).length := by
  intro r k
  induction k with
  | zero => exact Nat.le_refl _
  | succ k ih =>
    rw [← Nat.add_assoc, pf_lr_s]
    by_cases h : A.testBit (r + k) = true
    · rw [if_pos h, List.length_append]; omega
    · rw [if_neg h]; exact ih
theorem pf_lr_room {A r : Nat} (hr : r < 5) (hA : pf_cn A ≤ 4) (h : A.testBit r = true) : (pf_lr A r).length < 4 := by
  have h1 := pf_lr_len A (r + 1) (5 - (r + 1))
  rw [show r + 1 + (5 - (r + 1)) = 5 by omega, pf_lr_s, if_pos h, List.length_append] at h1
  have h2 : (pf_lr A 5).length = pf_cn A := rfl
  have h3 : [r].length = 1 := rfl
  omega
def pf_rw (f : Nat → Nat) (l : List Nat) (a : Nat → Int32) : Prop := ∀ k, k < l.length → a k = nI (f (l.getD k 0))
theorem pf_rw_s {f : Nat → Nat} {l : List Nat} {a : Nat → Int32} (h : pf_rw f l a) (r : Nat) : pf_rw f (l ++ [r]) (upd a l.length (nI (f r))) := by
  intro k hk
  rw [List.length_append] at hk
  have hk' : k < l.length + 1 := hk
  by_cases e : k = l.length
  · subst e
    rw [pk_us, List.getD_eq_getElem?_getD, List.getElem?_append_right (Nat.le_refl _), Nat.sub_self]
    rfl
  · rw [pk_un e, h k (by omega), List.getD_eq_getElem?_getD, List.getD_eq_getElem?_getD, List.getElem?_append_left (by omega)]
section
variable {ct gn rk lo : Int32} {bk wt wk ow tr tk wy kp ko : Nat → Int32}
theorem yt_88 {post : Int32 → SY → Prop} {J : Int32 → Int32 → Int32 → (Nat → Int32) → (Nat → Int32) → (Nat → Int32) → (Nat → Int32) → (Nat → Int32) → (Nat → Int32) → (Nat → Int32) → (Nat → Int32) → (Nat → Int32) → (Nat → Int32) → (Nat → Int32) → Prop} {st gl : Nat → Int32} {x1 x3 x4 : Int32} {B r : Nat} (hB : B < 32) (hc : pf_cn B ≤ 4) (hr : r < 5)
    (hg : pf_rw (fun x => 25 + x) (pf_lr B r) gl)
    (h : ∀ gl' : Nat → Int32, pf_rw (fun x => 25 + x) (pf_lr B (r + 1)) gl' → J x4 (nI (pf_lr B (r + 1)).length) (nI (r + 1)) bk wt st gl' wk ow tr tk wy kp ko) : wY_ends_88 post J x1 (nI B) x3 x4 (nI (pf_lr B r).length) (nI r) ct gn rk lo bk wt st gl wk ow tr tk wy kp ko := by
  have hB2 : B < 2 ^ 31 := by omega
  rw [pf_lr_s] at h
  by_cases hb : B.testBit r = true
  · rw [if_pos hb] at h
    have room := pf_lr_room hr hc hb
    have cl : (nI (pf_lr B r).length).toNatClampNeg = (pf_lr B r).length := nI_clamp (by omega)
    have hl : (pf_lr B r ++ [r]).length = (pf_lr B r).length + 1 := by rw [List.length_append]; rfl
    rw [hl] at h
    exact br_t (xt_b1 hB2 (by omega) hb) ⟨vp_in_nI room (by decide), nm_r (e' := upd gl (pf_lr B r).length (nI (25 + r))) (by rw [cl, show (25 : Int32) + nI r = nI (25 + r) from nI_add 25 r]) (nm_r (nI_1 _) (nm_r (nI_1 r) (h _ (pf_rw_s hg r))))⟩
  · rw [if_neg hb] at h
    exact br_f (xt_b0 hB2 (by omega) hb) (nm_r (nI_1 r) (h gl hg))
theorem yt_60 {post : Int32 → SY → Prop} {x3 : Int32} {A B : Nat} (hA : A < 32) (hB : B < 32) (hcA : pf_cn A ≤ 4) (hcB : pf_cn B ≤ 4)
    (h : ∀ st' gl', pf_rw (fun x => x) (pf_lr A 5) st' → pf_rw (fun x => 25 + x) (pf_lr B 5) gl' → post x3 (ct, gn, -4, 0, bk, wt, st', gl', wk, ow, tr, tk, wy, kp, ko)) :
    ∀ (e r : Nat) (st gl : Nat → Int32), r + e = 5 → pf_rw (fun x => x) (pf_lr A r) st → pf_rw (fun x => 25 + x) (pf_lr B r) gl →
      wY_ends_60 post (nI A) (nI B) x3 ct gn rk lo (e + 1) (nI (pf_lr A r).length) (nI (pf_lr B r).length) (nI r) bk wt st gl wk ow tr tk wy kp ko := by
  have hA2 : A < 2 ^ 31 := by omega
  intro e
  induction e with
  | zero =>
    intro r st gl hr hs hg
    have er : r = 5 := by omega
    subst er
    exact br_t (nI_le (a := 5) (b := 5) (Nat.le_refl _) (by decide)) (h st gl hs hg)
  | succ e ih =>
    intro r st gl hr hs hg
    have hr5 : r < 5 := by omega
    refine br_f (nI_ge (b := 5) hr5 (by decide)) ?_
    have es := pf_lr_s A r
    by_cases ha : A.testBit r = true
    · rw [if_pos ha] at es
      have room := pf_lr_room hr5 hcA ha
      have cl : (nI (pf_lr A r).length).toNatClampNeg = (pf_lr A r).length := nI_clamp (by omega)
      have hl : (pf_lr A (r + 1)).length = (pf_lr A r).length + 1 := by rw [es, List.length_append]; rfl
      refine br_t (xt_b1 hA2 (by omega) ha) ⟨vp_in_nI room (by decide), nm_r (e' := upd st (pf_lr A r).length (nI r)) (by rw [cl]) (nm_r (e' := nI (pf_lr A (r + 1)).length) (by rw [hl, nI_1]) (yt_88 hB hcB hr5 hg (fun gl' hg' => ih (r + 1) _ gl' (by omega) ?_ hg')))⟩
      rw [es]
      exact pf_rw_s hs r
    · rw [if_neg ha] at es
      refine br_f (xt_b0 hA2 (by omega) ha) (yt_88 hB hcB hr5 hg (fun gl' hg' => ?_))
      have := ih (r + 1) st gl' (by omega) (by rw [es]; exact hs) hg'
      rw [es] at this
      exact this
end
end
section
/-! X's answers over the list of families -/
def pf_XF (L : List (List (Nat × Nat))) (fp fc : Nat → Int32) : Prop := ∀ (f : Nat) (V : List (Nat × Nat)), L[f]? = some V → (∀ j, j < 4 → fp (4 * f + j) = nI (pf_mk j V)) ∧ fc f = nI (pf_ms V)
theorem pf_Fam_XF {L : List (List (Nat × Nat))} {fp fc : Nat → Int32} (h : pf_Fam (L.map (pf_mks 4)) fp fc) (hL : ∀ V, V ∈ L → ∀ p, p ∈ V → p.2 < 4) : pf_XF L fp fc := by
  intro f V hV
  have e : (L.map (pf_mks 4))[f]? = some [pf_mk 3 V, pf_mk 2 V, pf_mk 1 V, pf_mk 0 V] := by
    rw [List.getElem?_map, hV]; rfl
  obtain ⟨h0, h1, h2, h3, h4⟩ := h f _ _ _ _ e
  refine ⟨?_, by rw [h4, pf_mk4 V (hL V (List.mem_of_getElem? hV))]⟩
  intro j hj
  have : j = 0 ∨ j = 1 ∨ j = 2 ∨ j = 3 := by omega
  rcases this with e | e | e | e
  · subst e; exact h0
  · subst e; exact h1
  · subst e; exact h2
  · subst e; exact h3
theorem pf_dropL {Q : List (List (Nat × Nat))} {k : Nat} {d : List (Nat × Nat)} {R : List (List (Nat × Nat))} (h : Q.drop k = d :: R) : k < Q.length ∧ Q[k]? = some d ∧ Q.drop (k + 1) = R ∧ d ∈ Q := by
  have hk : k < Q.length := by
    apply Nat.lt_of_not_le
    intro hle
    rw [List.drop_eq_nil_of_le hle] at h
    cases h
  rw [List.drop_eq_getElem_cons hk] at h
  injection h with h1 h2
  refine ⟨hk, ?_, h2, ?_⟩
  · rw [List.getElem?_eq_getElem hk, h1]
  · rw [← h1]; exact List.getElem_mem hk
def pf_al : List (List (Nat × Nat)) → Nat → Nat
  | [], m => m
  | V :: R, m => pf_al R (m &&& pf_ms V)
theorem pf_al_bit (x : Nat) : ∀ (R : List (List (Nat × Nat))) (m : Nat), (pf_al R m).testBit x = true ↔ m.testBit x = true ∧ ∀ V, V ∈ R → (pf_ms V).testBit x = true := by
  intro R
  induction R with
  | nil => intro m; exact ⟨fun h => ⟨h, fun V hV => absurd hV (by simp)⟩, fun h => h.1⟩
  | cons V R ih =>
    intro m
    rw [pf_al, ih, Nat.testBit_and, Bool.and_eq_true]
    constructor
    · intro h
      refine ⟨h.1.1, fun V' hV' => ?_⟩
      rcases List.mem_cons.mp hV' with e | e
      · rw [e]; exact h.1.2
      · exact h.2 V' e
    · intro h
      exact ⟨⟨h.1, h.2 V (List.mem_cons_self ..)⟩, fun V' hV' => h.2 V' (List.mem_cons_of_mem _ hV')⟩
theorem pf_al_lt : ∀ (R : List (List (Nat × Nat))) (m : Nat), m < 2 ^ 30 → pf_al R m < 2 ^ 30 := by
  intro R
  induction R with
  | nil => intro m h; exact h
  | cons V R ih => intro m h; exact ih _ (Nat.lt_of_le_of_lt Nat.and_le_left h)
theorem pf_al_musts (V : List (Nat × Nat)) (R : List (List (Nat × Nat))) : pf_pb (pf_al R (pf_ms V)) 30 = pf_ct (fun x => decide (pf_c2 x x (V :: R) 0 = (V :: R).length)) 30 := by
  rw [pf_pb_ct]
  apply pf_ct_congr
  intro x _
  rw [Bool.eq_iff_iff, pf_al_bit, decide_eq_true_iff]
  have h := pf_c2_all x (V :: R) 0
  rw [Nat.zero_add] at h
  rw [h]
  constructor
  · intro e V' hV'
    rcases List.mem_cons.mp hV' with e1 | e1
    · rw [e1]; exact e.1
    · exact e.2 V' e1
  · intro e
    exact ⟨e V (List.mem_cons_self ..), fun V' hV' => e V' (List.mem_cons_of_mem _ hV')⟩
section
variable {bc ec fn ld : Int32} {wt sr gr pl pn fp fc : Nat → Int32}
theorem xt_sum_l {post : Int32 → Prop} {L : List (List (Nat × Nat))} (hL : L.length ≤ 490) (hX : pf_XF L fp fc) (hm : ∀ V, V ∈ L → pf_ms V < 2 ^ 30) :
    ∀ (R : List (List (Nat × Nat))) (k : Nat) (a : Int32), L.drop k = R → k ≤ L.length → post (pf_sw wt R a) → wX_sum_4 post bc ec (nI L.length) ld wt sr gr pl pn fp fc (R.length + 1) a (nI k) := by
  intro R
  induction R with
  | nil =>
    intro k a hR hk h
    have := List.drop_eq_nil_iff.mp hR
    exact br_t (nI_le (by omega) (by omega)) h
  | cons V R ih =>
    intro k a hR hk h
    obtain ⟨h1, h2, h3, h4⟩ := pf_dropL hR
    have ck : (nI k).toNatClampNeg = k := nI_clamp (by omega)
    have ef : fc (nI k).toNatClampNeg = nI (pf_ms V) := by rw [ck]; exact (hX k V h2).2
    have hV := hm V h4
    refine br_f (nI_ge h1 (by omega)) ⟨vp_in_nI (by omega) (by decide), ?_⟩
    rw [ef]
    exact xt_weightOf (by omega) (nm_e (nm_r (nI_1 k) (ih (k + 1) _ h3 h1 h)))
theorem xt_cfw_l {post : Int32 → Prop} {L : List (List (Nat × Nat))} {m a b : Nat} (hm31 : m < 2 ^ 31) (hmask : ∀ q : Nat, q &&& m = m ↔ (q.testBit a = true ∧ q.testBit b = true)) (hL : L.length ≤ 490) (hX : pf_XF L fp fc) (hm : ∀ V, V ∈ L → pf_ms V < 2 ^ 30) :
    ∀ (R : List (List (Nat × Nat))) (k q : Nat), L.drop k = R → k ≤ L.length → post (nI (pf_c2 a b R q)) → wX_countFamiliesWith_4 post (nI m) bc ec (nI L.length) ld wt sr gr pl pn fp fc (R.length + 1) (nI q) (nI k) := by
  intro R
  induction R with
  | nil =>
    intro k q hR hk h
    have := List.drop_eq_nil_iff.mp hR
    exact br_t (nI_le (by omega) (by omega)) h
  | cons V R ih =>
    intro k q hR hk h
    obtain ⟨h1, h2, h3, h4⟩ := pf_dropL hR
    have ck : (nI k).toNatClampNeg = k := nI_clamp (by omega)
    have ef : fc (nI k).toNatClampNeg = nI (pf_ms V) := by rw [ck]; exact (hX k V h2).2
    have hV := hm V h4
    have hle : pf_ms V &&& m ≤ m := Nat.and_le_right
    refine br_f (nI_ge h1 (by omega)) ⟨vp_in_nI (by omega) (by decide), ?_⟩
    rw [ef, nx_and]
    rw [pf_c2] at h
    refine pk_eq (pf_ms V &&& m) m (fun e => ?_) (fun e => ?_) rfl rfl (by omega) (by omega)
    · rw [if_pos ((hmask _).mp e)] at h
      exact nm_r (nI_1 q) (nm_r (nI_1 k) (ih (k + 1) (q + 1) h3 h1 h))
    · rw [if_neg (fun z => e ((hmask _).mpr z))] at h
      exact nm_r (nI_1 k) (ih (k + 1) q h3 h1 h)
theorem xt_musts_l {post : Int32 → Prop} {L : List (List (Nat × Nat))} (hL : L.length ≤ 490) (hX : pf_XF L fp fc) :
    ∀ (R : List (List (Nat × Nat))) (k m : Nat), m < 2 ^ 30 → L.drop k = R → k ≤ L.length → post (nI (pf_pb (pf_al R m) 30)) → wX_musts_18 post bc ec (nI L.length) ld wt sr gr pl pn fp fc (R.length + 1) (nI m) (nI k) := by
  intro R
  induction R with
  | nil =>
    intro k m hm hR hk h
    have := List.drop_eq_nil_iff.mp hR
    exact br_t (nI_le (by omega) (by omega)) (xt_countBits (by omega) h)
  | cons V R ih =>
    intro k m hm hR hk h
    obtain ⟨h1, h2, h3, h4⟩ := pf_dropL hR
    have ck : (nI k).toNatClampNeg = k := nI_clamp (by omega)
    have ef : fc (nI k).toNatClampNeg = nI (pf_ms V) := by rw [ck]; exact (hX k V h2).2
    have hle : m &&& pf_ms V ≤ m := Nat.and_le_left
    exact br_f (nI_ge h1 (by omega)) ⟨vp_in_nI (by omega) (by decide), nm_r (e' := nI (m &&& pf_ms V)) (by rw [ef, nx_and]) (nm_r (nI_1 k) (ih (k + 1) _ (by omega) h3 h1 h))⟩
theorem xt_paths_l {post : Int32 → Prop} {bl i s d : Nat} (hbl : bl < 2 ^ 30) (hi : i < 4) (hsd : s + d < 5) (hsr : sr i = nI s) (h : post (nI (pf_cnt bl s (5 + d) d))) :
    ∀ (e q : Nat), q + e = 2 ^ (5 + d) → wX_paths_44 post (nI i) (nI d) (nI (2 ^ (5 + d))) (nI bl) ec fn ld wt sr gr pl pn fp fc (e + 1) (nI (pf_ct (pf_fq bl s (5 + d) d) q)) (nI q) := by
  have hN : 2 ^ (5 + d) < 2 ^ 31 := Nat.pow_lt_pow_right (by decide) (by omega)
  have ci : (nI i).toNatClampNeg = i := nI_clamp (by omega)
  have es : sr (nI i).toNatClampNeg = nI s := by rw [ci]; exact hsr
  intro e
  induction e with
  | zero =>
    intro q hq
    have eq : q = 2 ^ (5 + d) := by omega
    rw [eq]
    exact br_t (nI_le (Nat.le_refl _) hN) h
  | succ e ih =>
    intro q hq
    have hqN : q < 2 ^ (5 + d) := by omega
    refine br_f (nI_ge hqN hN) ⟨vp_in_nI hi (by decide), ?_⟩
    rw [es]
    refine xt_freePath hsd hbl hqN ?_
    have hlt := pf_fp_lt (bl := bl) (s := s) (d := d) (q := q) hsd hqN
    have hi1 := ih (q + 1) (by omega)
    have hpc := pf_pb30 (n := 5 + d) (by omega) hqN
    rw [pf_ct] at hi1
    by_cases e1 : pf_pb q 30 = d ∧ pf_C s (5 + d) q &&& bl = 0
    · have hf : pf_fp bl s d q = pf_C s (5 + d) q := by rw [pf_fp, if_pos e1.1, if_pos e1.2]
      have hq1 : pf_fq bl s (5 + d) d q = true := by
        rw [pf_fq, ← hpc, e1.1, e1.2]; simp
      rw [if_pos hq1] at hi1
      have h0 := pf_C_0 s (5 + d) q
      rw [← hf] at h0
      exact br_f (nI_ne0 (by omega) (by omega)) (nm_r (nI_1 _) (nm_r (nI_1 q) hi1))
    · have hf : pf_fp bl s d q = 0 := by
        rw [pf_fp]
        by_cases e2 : pf_pb q 30 = d
        · rw [if_pos e2, if_neg (fun z => e1 ⟨e2, z⟩)]
        · rw [if_neg e2]
      have hq1 : ¬ pf_fq bl s (5 + d) d q = true := by
        intro z
        rw [pf_fq, Bool.and_eq_true, beq_iff_eq, beq_iff_eq, ← hpc] at z
        exact e1 z
      rw [if_neg hq1, Nat.add_zero] at hi1
      exact br_t (by rw [hf]; rfl) (nm_r (nI_1 q) hi1)
theorem pf_asc5 : ∀ A, A < 32 → (pf_mem A).Pairwise (fun a b => a < b) := by decide +kernel
theorem pf_mem30 : ∀ A, A < 32 → ∀ x, x ∈ pf_mem A → x < 30 := by decide +kernel
theorem xt_memA {post : Int32 → Prop} {A i : Nat} (hA : A < 32) (hi : i < pf_cn A) (hc : pf_cn A ≤ 4) (h : post (nI (pf_m A i))) : wpX_member post (nI A) (nI i) := by
  have e := pf_mkA A hA
  have e2 := pf_sel_at (pf_mem A) 0 i hi (by omega)
  rw [Nat.zero_add] at e2
  have := xt_member (post := post) (k := nI i) (pf_mem A) (pf_asc5 A hA) (pf_mem30 A hA) (by rw [e2]; exact h)
  rw [e] at this
  exact this
end
section
variable {bc ec fn ld : Int32} {wt pl pn fp fc : Nat → Int32}
theorem xt_ends_l {post : Int32 → SX → Prop} {A B c : Nat} (hA : A < 32) (hB : B < 32) (ecA : pf_cn A = c) (ecB : pf_cn B = c) (hc : c ≤ 4)
    (h : ∀ sr gr : Nat → Int32, (∀ i, i < c → sr i = nI (pf_m A i)) → (∀ i, i < c → gr i = nI (pf_m B i)) → wpX_listAnew (fun u => post (nI c) u) (bc, ec, fn, ld, wt, sr, gr, pl, pn, fp, fc)) :
    ∀ (e i : Nat) (sr gr : Nat → Int32), i + e = c → (∀ k, k < i → sr k = nI (pf_m A k)) → (∀ k, k < i → gr k = nI (pf_m B k)) → wX_ends_44 post (nI A) (nI B) (nI c) bc ec fn ld (e + 1) (nI i) wt sr gr pl pn fp fc := by
  intro e
  induction e with
  | zero =>
    intro i sr gr hi hs hg
    have ei : i = c := by omega
    subst ei
    exact br_t (nI_le (Nat.le_refl _) (by omega)) (h sr gr hs hg)
  | succ e ih =>
    intro i sr gr hi hs hg
    have ci : (nI i).toNatClampNeg = i := nI_clamp (by omega)
    have vi : vp_in (nI i) 4 := vp_in_nI (by omega) (by decide)
    refine br_f (nI_ge (by omega) (by omega)) (xt_memA hA (by omega) (by omega) ⟨vi, nm_r (e' := upd sr i (nI (pf_m A i))) (by rw [ci]) (xt_memA hB (by omega) (by omega) ⟨vi, nm_r (e' := upd gr i (nI (pf_m B i))) (by rw [ci]) (nm_r (nI_1 i) (ih (i + 1) _ _ (by omega) ?_ ?_))⟩)⟩)
    · intro k hk
      by_cases ek : k = i
      · subst ek; exact pk_us
      · rw [pk_un ek]; exact hs k (by omega)
    · intro k hk
      by_cases ek : k = i
      · subst ek; exact pk_us
      · rw [pk_un ek]; exact hg k (by omega)
end
end
section
/-! the relation -/
abbrev pf_L (bl A B : Nat) : List (List (Nat × Nat)) := pf_F bl (pf_m A) (pf_m B) (pf_cn A) 0 []
def pf_Ld (L : List (List (Nat × Nat))) (c : Nat) (ld rk lo : Int32) (kp ko : Nat → Int32) : Prop :=
  (ld = -4 ∧ rk = -4 ∧ lo = 0) ∨ ∃ (N : Nat) (S : List (Nat × Nat × Nat)), L[N]? = some (pf_st S) ∧ pf_Ok c S ∧ S ≠ [] ∧ ld = nI N ∧ rk = nI N ∧ lo = nI S.length ∧ pf_lay kp ko (pf_st S).reverse 0
def pf_R0 (bl A B : Nat) (sr gr fp fc bk st gl : Nat → Int32) : Prop :=
  bl < 2 ^ 30 ∧ 0 < A ∧ A < 32 ∧ B < 32 ∧ pf_cn A = pf_cn B ∧ pf_cn A ≤ 4 ∧ (∀ i, i < pf_cn A → sr i = nI (pf_m A i)) ∧ (∀ i, i < pf_cn A → gr i = nI (pf_m B i)) ∧ pf_XF (pf_L bl A B) fp fc ∧
  pf_bk bl bk ∧ (∀ i, i < pf_cn A → st i = nI (pf_m A i)) ∧ (∀ i, i < pf_cn A → gl i = nI (25 + pf_m B i))
def i_Rel (k : Nat) (u : SX) (v : SY) : Prop :=
  ∃ (bl A B : Nat) (ld gn rk lo : Int32) (wt sr gr pl pn fp fc bk st gl wk ow tr tk wy kp ko : Nat → Int32),
    u = (nI bl, nI (pf_cn A), nI (pf_L bl A B).length, ld, wt, sr, gr, pl, pn, fp, fc) ∧ v = (nI (pf_cn A), gn, rk, lo, bk, wt, st, gl, wk, ow, tr, tk, wy, kp, ko) ∧ pf_R0 bl A B sr gr fp fc bk st gl ∧ pf_Ld (pf_L bl A B) (pf_cn A) ld rk lo kp ko
theorem pf_mkRel {k bl A B : Nat} {ld gn rk lo : Int32} {wt sr gr pl pn fp fc bk st gl wk ow tr tk wy kp ko : Nat → Int32} (R : pf_R0 bl A B sr gr fp fc bk st gl) (D : pf_Ld (pf_L bl A B) (pf_cn A) ld rk lo kp ko) :
    i_Rel k (nI bl, nI (pf_cn A), nI (pf_L bl A B).length, ld, wt, sr, gr, pl, pn, fp, fc) (nI (pf_cn A), gn, rk, lo, bk, wt, st, gl, wk, ow, tr, tk, wy, kp, ko) :=
  ⟨bl, A, B, ld, gn, rk, lo, wt, sr, gr, pl, pn, fp, fc, bk, st, gl, wk, ow, tr, tk, wy, kp, ko, rfl, rfl, R, D⟩
theorem i_up {k : Nat} {u : SX} {v : SY} (h : i_Rel k u v) : i_Rel (k + 3) u v := h
section
variable {bl A B : Nat} {sr gr fp fc bk st gl : Nat → Int32}
theorem pf_hs (hA : A < 32) (hc : pf_cn A ≤ 4) : ∀ i, i < pf_cn A → pf_m A i < 5 := fun i hi => pf_m5 A hA i (by omega)
theorem pf_RC (R : pf_R0 bl A B sr gr fp fc bk st gl) : pf_YC bl (pf_cn A) (pf_m A) (pf_m B) bk st gl := by
  obtain ⟨h1, h2, h3, h4, h5, h6, h7, h8, h9, h10, h11, h12⟩ := R
  exact ⟨pf_cn1 A h3 h2, h6, pf_hs h3 h6, fun i hi => pf_m5 B h4 i (by omega), h11, h12, h10⟩
theorem pf_RL (R : pf_R0 bl A B sr gr fp fc bk st gl) : (pf_L bl A B).length ≤ 490 := by
  obtain ⟨h1, h2, h3, h4, h5, h6, h7, h8, h9, h10, h11, h12⟩ := R
  exact pf_L490 bl A B h3 h4 h5 h6
theorem pf_Lok (h2 : 0 < A) (h3 : A < 32) (h4 : B < 32) (h6 : pf_cn A ≤ 4) : ∀ V, V ∈ pf_L bl A B → ∃ S0, pf_Ok (pf_cn A) S0 ∧ V = pf_st S0 :=
  pf_F_ok (pf_cn1 A h3 h2) (pf_hs h3 h6) (fun i hi => pf_m5 B h4 i (by omega))
theorem pf_RM (R : pf_R0 bl A B sr gr fp fc bk st gl) : ∀ V, V ∈ pf_L bl A B → pf_ms V < 2 ^ 30 := by
  obtain ⟨h1, h2, h3, h4, h5, h6, h7, h8, h9, h10, h11, h12⟩ := R
  intro V hV
  obtain ⟨S0, hk, rfl⟩ := pf_Lok h2 h3 h4 h6 V hV
  exact pf_ms_lt hk
theorem pf_LXF (h2 : 0 < A) (h3 : A < 32) (h4 : B < 32) (h6 : pf_cn A ≤ 4) (hF : pf_Fam ((pf_L bl A B).map (pf_mks 4)) fp fc) : pf_XF (pf_L bl A B) fp fc := by
  refine pf_Fam_XF hF (fun V hV p hp => ?_)
  obtain ⟨S0, hk, rfl⟩ := pf_Lok h2 h3 h4 h6 V hV
  have := (pf_st_mem hk p hp).2
  omega
end
theorem pf_nm4 {N : Nat} (h : N < 2 ^ 31) : ¬ nI N = -4 := by
  intro e
  have := nI_pos (n := N) h
  rw [e] at this
  exact this (by decide)
theorem i_vc_rank {k : Nat} {u : SX} {v : SY} (I : i_Rel k u v) (hk : k + 3 ≤ 1536) : wpX_rank (fun r => wpY_rank (fun r' => r' = r ∧ i_Rel (k + 3) u v) v) u := by
  have I0 := I
  obtain ⟨bl, A, B, ld, gn, rk, lo, wt, sr, gr, pl, pn, fp, fc, bk, st, gl, wk, ow, tr, tk, wy, kp, ko, rfl, rfl, R, D⟩ := I
  refine ⟨?_, I0⟩
  rcases D with ⟨e1, e2, _⟩ | ⟨N, S, _, _, _, e1, e2, _⟩
  · exact e2.trans e1.symm
  · exact e2.trans e1.symm
theorem i_vc_families {k : Nat} {u : SX} {v : SY} (I : i_Rel k u v) (hk : k + 3 ≤ 1536) : wpX_families (fun r => wpY_families (fun r' v' => r' = r ∧ i_Rel (k + 3) u v') v) u := by
  obtain ⟨bl, A, B, ld, gn, rk, lo, wt, sr, gr, pl, pn, fp, fc, bk, st, gl, wk, ow, tr, tk, wy, kp, ko, rfl, rfl, R, D⟩ := I
  exact yt_families (gn := gn) (pf_RC R) (fun gn' wk' ow' tr' tk' => ⟨rfl, pf_mkRel R D⟩)
theorem i_vc_sum {k : Nat} {u : SX} {v : SY} (I : i_Rel k u v) (hk : k + 3 ≤ 1536) : wpX_sum (fun r => wpY_sum (fun r' v' => r' = r ∧ i_Rel (k + 3) u v') v) u := by
  obtain ⟨bl, A, B, ld, gn, rk, lo, wt, sr, gr, pl, pn, fp, fc, bk, st, gl, wk, ow, tr, tk, wy, kp, ko, rfl, rfl, R, D⟩ := I
  refine ⟨_, xt_sum_l (pf_RL R) R.2.2.2.2.2.2.2.2.1 (pf_RM R) (pf_L bl A B) 0 0 rfl (Nat.zero_le _) ?_⟩
  exact yt_sum (gn := gn) (pf_RC R) (fun gn' wk' ow' tr' tk' => ⟨rfl, pf_mkRel R D⟩)
theorem i_vc_through {k : Nat} {u : SX} {v : SY} (I : i_Rel k u v) (hk : k + 3 ≤ 1536) (v1 : Int32) : wpX_through (fun r => wpY_through (fun r' v' => r' = r ∧ i_Rel (k + 3) u v') v v1) u v1 := by
  have I0 := I
  obtain ⟨bl, A, B, ld, gn, rk, lo, wt, sr, gr, pl, pn, fp, fc, bk, st, gl, wk, ow, tr, tk, wy, kp, ko, rfl, rfl, R, D⟩ := I
  have bad : (v1 < 0 ∨ 30 ≤ v1) → wpX_through (fun r => wpY_through (fun r' v' => r' = r ∧ i_Rel (k + 3) (nI bl, nI (pf_cn A), nI (pf_L bl A B).length, ld, wt, sr, gr, pl, pn, fp, fc) v') (nI (pf_cn A), gn, rk, lo, bk, wt, st, gl, wk, ow, tr, tk, wy, kp, ko) v1) (nI bl, nI (pf_cn A), nI (pf_L bl A B).length, ld, wt, sr, gr, pl, pn, fp, fc) v1 := by
    intro hb
    unfold wpX_through
    dsimp only
    refine xt_isCell_f hb ?_
    refine br_t rfl ?_
    unfold wpY_through
    dsimp only
    unfold wpY_throughBoth
    dsimp only
    refine yt_noCell_t hb ?_
    exact br_f (by decide) ⟨rfl, I0⟩
  rcases pk_ix v1 (n := 30) (by decide) with h | h | ⟨a, ha, rfl⟩
  · exact bad (Or.inl h)
  · exact bad (Or.inr h)
  · unfold wpX_through
    dsimp only
    refine xt_isCell_t ha ?_
    refine br_f (by decide) ?_
    rw [pf_one (by omega)]
    refine ⟨_, xt_cfw_l (a := a) (b := a) (Nat.pow_lt_pow_right (by decide) (by omega)) (fun q => (pf_has1 q a).trans ⟨fun z => ⟨z, z⟩, fun z => z.1⟩) (pf_RL R) R.2.2.2.2.2.2.2.2.1 (pf_RM R) (pf_L bl A B) 0 0 rfl (Nat.zero_le _) ?_⟩
    exact yt_throughBoth (gn := gn) (pf_RC R) ha ha (fun gn' wk' ow' tr' tk' => ⟨rfl, pf_mkRel R D⟩)
theorem i_vc_throughBoth {k : Nat} {u : SX} {v : SY} (I : i_Rel k u v) (hk : k + 3 ≤ 1536) (v1 : Int32) (v2 : Int32) : wpX_throughBoth (fun r => wpY_throughBoth (fun r' v' => r' = r ∧ i_Rel (k + 3) u v') v v1 v2) u v1 v2 := by
  have I0 := I
  obtain ⟨bl, A, B, ld, gn, rk, lo, wt, sr, gr, pl, pn, fp, fc, bk, st, gl, wk, ow, tr, tk, wy, kp, ko, rfl, rfl, R, D⟩ := I
  unfold wpX_throughBoth
  dsimp only
  have bad1 : ∀ w1 : Int32, (w1 < 0 ∨ 30 ≤ w1) → wpY_throughBoth (fun r' v' => r' = -1 ∧ i_Rel (k + 3) (nI bl, nI (pf_cn A), nI (pf_L bl A B).length, ld, wt, sr, gr, pl, pn, fp, fc) v') (nI (pf_cn A), gn, rk, lo, bk, wt, st, gl, wk, ow, tr, tk, wy, kp, ko) w1 v2 := by
    intro w1 hb
    unfold wpY_throughBoth
    dsimp only
    refine yt_noCell_t hb ?_
    exact br_f (by decide) ⟨rfl, I0⟩
  have ok1 : ∀ a : Nat, a < 30 → (v2 < 0 ∨ 30 ≤ v2) → wpY_throughBoth (fun r' v' => r' = -1 ∧ i_Rel (k + 3) (nI bl, nI (pf_cn A), nI (pf_L bl A B).length, ld, wt, sr, gr, pl, pn, fp, fc) v') (nI (pf_cn A), gn, rk, lo, bk, wt, st, gl, wk, ow, tr, tk, wy, kp, ko) (nI a) v2 := by
    intro a ha hb
    unfold wpY_throughBoth
    dsimp only
    refine yt_noCell_f ha ?_
    refine br_t rfl ?_
    refine yt_noCell_t hb ?_
    exact br_f (by decide) ⟨rfl, I0⟩
  rcases pk_ix v1 (n := 30) (by decide) with h | h | ⟨a, ha, rfl⟩
  · refine xt_isCell_f (Or.inl h) ?_
    exact br_t rfl (bad1 v1 (Or.inl h))
  · refine xt_isCell_f (Or.inr h) ?_
    exact br_t rfl (bad1 v1 (Or.inr h))
  · refine xt_isCell_t ha ?_
    refine br_f (by decide) ?_
    rcases pk_ix v2 (n := 30) (by decide) with h | h | ⟨b, hb, rfl⟩
    · refine xt_isCell_f (Or.inl h) ?_
      exact br_t rfl (ok1 a ha (Or.inl h))
    · refine xt_isCell_f (Or.inr h) ?_
      exact br_t rfl (ok1 a ha (Or.inr h))
    · refine xt_isCell_t hb ?_
      refine br_f (by decide) ?_
      rw [pf_one (by omega), pf_one (by omega), pf_or]
      refine ⟨_, xt_cfw_l (a := a) (b := b) ?_ (fun q => pf_has2 q a b) (pf_RL R) R.2.2.2.2.2.2.2.2.1 (pf_RM R) (pf_L bl A B) 0 0 rfl (Nat.zero_le _) ?_⟩
      · exact Nat.or_lt_two_pow (Nat.pow_lt_pow_right (by decide) (by omega)) (Nat.pow_lt_pow_right (by decide) (by omega))
      · exact yt_throughBoth (gn := gn) (pf_RC R) ha hb (fun gn' wk' ow' tr' tk' => ⟨rfl, pf_mkRel R D⟩)
theorem i_vc_musts {k : Nat} {u : SX} {v : SY} (I : i_Rel k u v) (hk : k + 3 ≤ 1536) : wpX_musts (fun r => wpY_musts (fun r' v' => r' = r ∧ i_Rel (k + 3) u v') v) u := by
  obtain ⟨bl, A, B, ld, gn, rk, lo, wt, sr, gr, pl, pn, fp, fc, bk, st, gl, wk, ow, tr, tk, wy, kp, ko, rfl, rfl, R, D⟩ := I
  have hL := pf_RL R
  refine pk_eq (pf_L bl A B).length 0 (fun e => ?_) (fun e => ?_) rfl rfl (by omega) (by omega)
  · refine yt_musts (gn := gn) (pf_RC R) hL (fun gn' wk' ow' tr' tk' => ⟨?_, pf_mkRel R D⟩)
    rw [if_pos e]
  · obtain ⟨V, L', eL⟩ : ∃ V L', pf_L bl A B = V :: L' := by
      cases h : pf_L bl A B with
      | nil => rw [h] at e; exact absurd rfl e
      | cons V L' => exact ⟨V, L', rfl⟩
    have hX := R.2.2.2.2.2.2.2.2.1
    have h0 := (hX 0 V (by rw [eL]; rfl)).2
    have hV : pf_ms V < 2 ^ 30 := pf_RM R V (by rw [eL]; exact List.mem_cons_self ..)
    refine nm_r (e' := nI (pf_ms V)) h0 ⟨_, xt_musts_l hL hX L' 1 (pf_ms V) hV (by rw [eL]; rfl) (by omega) ?_⟩
    refine yt_musts (gn := gn) (pf_RC R) hL (fun gn' wk' ow' tr' tk' => ⟨?_, pf_mkRel R D⟩)
    rw [if_neg e, pf_al_musts]
    rw [show pf_F bl (pf_m A) (pf_m B) (pf_cn A) 0 [] = V :: L' from eL]
theorem i_vc_load {k : Nat} {u : SX} {v : SY} (I : i_Rel k u v) (hk : k + 3 ≤ 1536) (v1 : Int32) : wpX_load (fun r u' => wpY_load (fun r' v' => r' = r ∧ i_Rel (k + 3) u' v') v v1) u v1 := by
  have I0 := I
  obtain ⟨bl, A, B, ld, gn, rk, lo, wt, sr, gr, pl, pn, fp, fc, bk, st, gl, wk, ow, tr, tk, wy, kp, ko, rfl, rfl, R, D⟩ := I
  have hL := pf_RL R
  by_cases h0 : v1 < 0
  · exact br_t h0 (br_f (Int32.not_le.mpr h0) ⟨rfl, I0⟩)
  · obtain ⟨N, hN, rfl⟩ := nI_of h0
    refine br_f h0 (pk_lt N (pf_L bl A B).length (fun h => ?_) (fun h => ?_) rfl rfl hN (by omega))
    · refine yt_load (gn := gn) (pf_RC R) hN (fun hn => ?_) (fun S hS hok hne gn' wk' ow' tr' tk' kp' ko' hlay => ⟨rfl, pf_mkRel R (Or.inr ⟨N, S, hS, hok, hne, rfl, rfl, rfl, hlay⟩)⟩)
      rw [List.getElem?_eq_none_iff] at hn
      exact absurd h (Nat.not_lt.mpr hn)
    · refine yt_load (gn := gn) (pf_RC R) hN (fun hn gn' wk' ow' tr' tk' => ⟨rfl, pf_mkRel R D⟩) (fun S hS => ?_)
      rw [List.getElem?_eq_none_iff.mpr h] at hS
      cases hS
theorem i_vc_weight {k : Nat} {u : SX} {v : SY} (I : i_Rel k u v) (hk : k + 3 ≤ 1536) (v1 : Int32) (v2 : Int32) : wpX_weight (fun r u' => wpY_weight (fun r' v' => r' = r ∧ i_Rel (k + 3) u' v') v v1 v2) u v1 v2 := by
  have I0 := I
  obtain ⟨bl, A, B, ld, gn, rk, lo, wt, sr, gr, pl, pn, fp, fc, bk, st, gl, wk, ow, tr, tk, wy, kp, ko, rfl, rfl, R, D⟩ := I
  unfold wpX_weight
  dsimp only
  have bad : (v1 < 0 ∨ 30 ≤ v1) → wpY_weight (fun r' v' => r' = -1 ∧ i_Rel (k + 3) (nI bl, nI (pf_cn A), nI (pf_L bl A B).length, ld, wt, sr, gr, pl, pn, fp, fc) v') (nI (pf_cn A), gn, rk, lo, bk, wt, st, gl, wk, ow, tr, tk, wy, kp, ko) v1 v2 := by
    intro hb
    unfold wpY_weight
    dsimp only
    refine yt_noCell_t hb ?_
    exact br_f (by decide) ⟨rfl, I0⟩
  rcases pk_ix v1 (n := 30) (by decide) with h | h | ⟨a, ha, rfl⟩
  · refine xt_isCell_f (Or.inl h) ?_
    exact br_t rfl (bad (Or.inl h))
  · refine xt_isCell_f (Or.inr h) ?_
    exact br_t rfl (bad (Or.inr h))
  · have ca : (nI a).toNatClampNeg = a := nI_clamp (by omega)
    have va : vp_in (nI a) 30 := vp_in_nI ha (by decide)
    refine xt_isCell_t ha ?_
    refine br_f (by decide) ⟨va, nm_r (e' := upd wt a v2) (by rw [ca]) ?_⟩
    unfold wpY_weight
    dsimp only
    refine yt_noCell_f ha ?_
    exact br_t rfl ⟨va, nm_r (e' := upd wt a v2) (by rw [ca]) ⟨rfl, pf_mkRel R D⟩⟩
end
section
theorem pf_filt_nil {c : Nat} {S : List (Nat × Nat × Nat)} {p0 : Int32} (hc : c ≤ 4) (hk : pf_Ok c S) (hp : p0 < 0 ∨ nI c ≤ p0) : (pf_st S).reverse.filter (fun p => decide (nI p.2 = p0)) = [] := by
  rw [List.filter_eq_nil_iff]
  intro p hm z
  have e := of_decide_eq_true z
  have h2 := (pf_st_mem hk p (List.mem_reverse.mp hm)).2
  rw [← e] at hp
  rcases hp with h | h
  · exact nI_pos (by omega) h
  · exact nI_ge h2 (by omega) h
theorem pf_filt_own {c i : Nat} {S : List (Nat × Nat × Nat)} (hc : c ≤ 4) (hi : i < c) (hk : pf_Ok c S) : ((pf_st S).reverse.filter (fun p => decide (nI p.2 = nI i))).map (fun p => p.1) = (pf_own i (pf_st S)).reverse := by
  rw [pf_own, List.filter_reverse, List.map_reverse]
  congr 2
  apply List.filter_congr
  intro p hp
  have h2 := (pf_st_mem hk p hp).2
  rw [Bool.eq_iff_iff, decide_eq_true_iff, beq_iff_eq, nI_eq (by omega) (by omega)]
theorem i_vc_cell {k : Nat} {u : SX} {v : SY} (I : i_Rel k u v) (hk : k + 3 ≤ 1536) (v1 : Int32) (v2 : Int32) : wpX_cell (fun r => wpY_cell (fun r' => r' = r ∧ i_Rel (k + 3) u v) v v1 v2) u v1 v2 := by
  have I0 := I
  obtain ⟨bl, A, B, ld, gn, rk, lo, wt, sr, gr, pl, pn, fp, fc, bk, st, gl, wk, ow, tr, tk, wy, kp, ko, rfl, rfl, R, D⟩ := I
  have hL := pf_RL R
  have hc : pf_cn A ≤ 4 := R.2.2.2.2.2.1
  rcases D with ⟨e1, e2, e3⟩ | ⟨N, S, hS, hok, hne, e1, e2, e3, hlay⟩
  · subst e1 e3
    exact br_t rfl ⟨1, br_t (by decide) ⟨rfl, I0⟩⟩
  · subst e1 e3
    have hN : N < (pf_L bl A B).length := by
      apply Nat.lt_of_not_le
      intro z
      rw [List.getElem?_eq_none_iff.mpr z] at hS
      cases hS
    have hlen := pf_Ok_len hok
    have el : (pf_st S).reverse.length = S.length := by rw [List.length_reverse, pf_st, List.length_map]
    refine br_f (pf_nm4 (by omega)) ?_
    have Y : ∀ r : Int32, r = pf_sel v2 (((pf_st S).reverse.filter (fun p => decide (nI p.2 = v1))).map (fun p => p.1)) 0 → wpY_cell (fun r' => r' = r ∧ i_Rel (k + 3) (nI bl, nI (pf_cn A), nI (pf_L bl A B).length, nI N, wt, sr, gr, pl, pn, fp, fc) (nI (pf_cn A), gn, rk, nI S.length, bk, wt, st, gl, wk, ow, tr, tk, wy, kp, ko)) (nI (pf_cn A), gn, rk, nI S.length, bk, wt, st, gl, wk, ow, tr, tk, wy, kp, ko) v1 v2 :=
      fun r er => ⟨_, yt_cell_l hlen (pf_st S).reverse 0 0 hlay (by rw [el, Nat.zero_add]) ⟨er.symm, I0⟩⟩
    rcases pk_ix v1 (n := pf_cn A) (by omega) with h | h | ⟨i, hi, rfl⟩
    · refine xt_isEnd_f (Or.inl h) ?_
      exact br_t rfl (Y (-4) (by rw [pf_filt_nil hc hok (Or.inl h)]; rfl))
    · refine xt_isEnd_f (Or.inr h) ?_
      exact br_t rfl (Y (-4) (by rw [pf_filt_nil hc hok (Or.inr h)]; rfl))
    · refine xt_isEnd_t hc hi ?_
      refine br_f (by decide) ?_
      have e4 : (4 : Int32) * nI N + nI i = nI (4 * N + i) := by rw [show (4 : Int32) = nI 4 from rfl, pk_mul, nI_add]
      have c4 : (nI (4 * N + i)).toNatClampNeg = 4 * N + i := nI_clamp (by omega)
      have hX := R.2.2.2.2.2.2.2.2.1
      have hf := (hX N _ hS).1 i (by omega)
      rw [e4, c4, hf]
      refine ⟨vp_in_nI (by omega) (by decide), ?_⟩
      have em : pf_mk i (pf_st S) = pf_mask (pf_own i (pf_st S)).reverse := pf_mask_ext _ _ (fun x => List.mem_reverse.symm)
      rw [em]
      refine xt_member _ (pf_own_asc hok i) (fun x hx => pf_own_lt hok i x (List.mem_reverse.mp hx)) ?_
      exact Y _ (by rw [pf_filt_own hc hi hok])
theorem i_vc_loadedWeight {k : Nat} {u : SX} {v : SY} (I : i_Rel k u v) (hk : k + 3 ≤ 1536) : wpX_loadedWeight (fun r => wpY_loadedWeight (fun r' => r' = r ∧ i_Rel (k + 3) u v) v) u := by
  have I0 := I
  obtain ⟨bl, A, B, ld, gn, rk, lo, wt, sr, gr, pl, pn, fp, fc, bk, st, gl, wk, ow, tr, tk, wy, kp, ko, rfl, rfl, R, D⟩ := I
  have hL := pf_RL R
  rcases D with ⟨e1, e2, e3⟩ | ⟨N, S, hS, hok, hne, e1, e2, e3, hlay⟩
  · subst e1 e3
    exact br_t rfl (br_t rfl ⟨rfl, I0⟩)
  · subst e1 e3
    have hN : N < (pf_L bl A B).length := by
      apply Nat.lt_of_not_le
      intro z
      rw [List.getElem?_eq_none_iff.mpr z] at hS
      cases hS
    have hlen := pf_Ok_len hok
    have hpos : 0 < S.length := List.length_pos_iff.mpr hne
    have el : (pf_st S).reverse.length = S.length := by rw [List.length_reverse, pf_st, List.length_map]
    have hX := R.2.2.2.2.2.2.2.2.1
    have hf := (hX N _ hS).2
    have cN : (nI N).toNatClampNeg = N := nI_clamp (by omega)
    have hm := pf_ms_lt hok
    refine br_f (pf_nm4 (by omega)) ⟨vp_in_nI (by omega) (by decide), ?_⟩
    rw [cN, hf]
    refine xt_weightOf (by omega) (br_f (nI_ne0 hpos (by omega)) ⟨_, yt_lw_l hlen (pf_st S).reverse 0 1 hlay (by rw [el, Nat.zero_add]) (fun p hp => (pf_st_mem hok p (List.mem_reverse.mp hp)).1) ⟨?_, I0⟩⟩)
    rw [pf_weight hok wt]
theorem i_vc_paths {k : Nat} {u : SX} {v : SY} (I : i_Rel k u v) (hk : k + 3 ≤ 1536) (v1 : Int32) (v2 : Int32) : wpX_paths (fun r => wpY_paths (fun r' v' => r' = r ∧ i_Rel (k + 3) u v') v v1 v2) u v1 v2 := by
  have I0 := I
  obtain ⟨bl, A, B, ld, gn, rk, lo, wt, sr, gr, pl, pn, fp, fc, bk, st, gl, wk, ow, tr, tk, wy, kp, ko, rfl, rfl, R, D⟩ := I
  have R' := R
  obtain ⟨r1, r2, r3, r4, r5, r6, r7, r8, r9, r10, r11, r12⟩ := R'
  unfold wpX_paths
  dsimp only
  have bad1 : (v1 < 0 ∨ nI (pf_cn A) ≤ v1) → wpY_paths (fun r' v' => r' = -1 ∧ i_Rel (k + 3) (nI bl, nI (pf_cn A), nI (pf_L bl A B).length, ld, wt, sr, gr, pl, pn, fp, fc) v') (nI (pf_cn A), gn, rk, lo, bk, wt, st, gl, wk, ow, tr, tk, wy, kp, ko) v1 v2 :=
    fun hb => br_c (fun _ => ⟨rfl, I0⟩) (fun hn => br_t (hb.resolve_left hn) ⟨rfl, I0⟩)
  have bad2 : ∀ i : Nat, i < pf_cn A → (v2 < 0 ∨ nI (pf_cn A) ≤ v2) → wpY_paths (fun r' v' => r' = -1 ∧ i_Rel (k + 3) (nI bl, nI (pf_cn A), nI (pf_L bl A B).length, ld, wt, sr, gr, pl, pn, fp, fc) v') (nI (pf_cn A), gn, rk, lo, bk, wt, st, gl, wk, ow, tr, tk, wy, kp, ko) (nI i) v2 :=
    fun i hi hb => br_f (nI_pos (by omega)) (br_f (nI_ge hi (by omega)) (br_c (fun _ => ⟨rfl, I0⟩) (fun hn => br_f (Int32.not_lt.mpr (hb.resolve_left hn)) ⟨rfl, I0⟩)))
  rcases pk_ix v1 (n := pf_cn A) (by omega) with h | h | ⟨i, hi, rfl⟩
  · refine xt_isEnd_f (Or.inl h) ?_
    exact br_t rfl (bad1 (Or.inl h))
  · refine xt_isEnd_f (Or.inr h) ?_
    exact br_t rfl (bad1 (Or.inr h))
  · refine xt_isEnd_t r6 hi ?_
    refine br_f (by decide) ?_
    rcases pk_ix v2 (n := pf_cn A) (by omega) with h | h | ⟨j, hj, rfl⟩
    · refine xt_isEnd_f (Or.inl h) ?_
      exact br_t rfl (bad2 i hi (Or.inl h))
    · refine xt_isEnd_f (Or.inr h) ?_
      exact br_t rfl (bad2 i hi (Or.inr h))
    · refine xt_isEnd_t r6 hj ?_
      refine br_f (by decide) ?_
      have hs5 := pf_m5 A r3 i (by omega)
      have hg5 := pf_m5 B r4 j (by omega)
      have ci : (nI i).toNatClampNeg = i := nI_clamp (by omega)
      have cj : (nI j).toNatClampNeg = j := nI_clamp (by omega)
      have vi : vp_in (nI i) 4 := vp_in_nI (by omega) (by decide)
      have vj : vp_in (nI j) 4 := vp_in_nI (by omega) (by decide)
      have es : sr (nI i).toNatClampNeg = nI (pf_m A i) := by rw [ci]; exact r7 i hi
      have eg : gr (nI j).toNatClampNeg = nI (pf_m B j) := by rw [cj]; exact r8 j hj
      have Y : ∀ r : Int32, nI (pf_wv bl (pf_m A i) (25 + pf_m B j)) = r → wpY_paths (fun r' v' => r' = r ∧ i_Rel (k + 3) (nI bl, nI (pf_cn A), nI (pf_L bl A B).length, ld, wt, sr, gr, pl, pn, fp, fc) v') (nI (pf_cn A), gn, rk, lo, bk, wt, st, gl, wk, ow, tr, tk, wy, kp, ko) (nI i) (nI j) := by
        intro r er
        have es' : st (nI i).toNatClampNeg = nI (pf_m A i) := by rw [ci]; exact r11 i hi
        have eg' : gl (nI j).toNatClampNeg = nI (25 + pf_m B j) := by rw [cj]; exact r12 j hj
        refine br_f (nI_pos (by omega)) (br_f (nI_ge hi (by omega)) (br_f (nI_pos (by omega)) (br_t (nI_lt hj (by omega)) ⟨vi, vj, ?_⟩)))
        rw [es', eg']
        exact yt_ways r10 hs5 (by omega) (fun wy' => ⟨er, pf_mkRel R D⟩)
      refine ⟨vj, vi, ?_⟩
      by_cases hsg : pf_m A i ≤ pf_m B j
      · refine nm_r (e' := nI (pf_m B j - pf_m A i)) (by rw [es, eg, pk_sub hsg]) ?_
        refine xt_codeCount (by omega) ⟨_, xt_paths_l r1 (by omega) (by omega) (r7 i hi) (Y _ ?_) (2 ^ (5 + (pf_m B j - pf_m A i))) 0 (by omega)⟩
        rw [pf_wv, show (25 + pf_m B j) % 5 = pf_m B j by omega, if_pos hsg, show (25 + pf_m B j) / 5 = 5 by omega]
      · refine nm_r (e' := nI (pf_m B j) - nI (pf_m A i)) (by rw [es, eg]) ?_
        refine br_f (Int32.not_le.mpr (pk_sneg (by omega) (by omega))) ⟨1, br_t (by decide) (Y 0 ?_)⟩
        rw [pf_wv_lo bl _ _ (by omega)]
        rfl
theorem pf_clr (bl x y : Nat) (hy : y < 30) : (bl &&& (2 ^ x ^^^ 4294967295)).testBit y = (bl.testBit y && !decide (x = y)) := by
  rw [Nat.testBit_and, Nat.testBit_xor, Nat.testBit_two_pow, show (4294967295 : Nat) = 2 ^ 32 - 1 from rfl, Nat.testBit_two_pow_sub_one, decide_eq_true (show y < 32 by omega), Bool.xor_true]
theorem pf_bk_set {bl x : Nat} {bk : Nat → Int32} (h : pf_bk bl bk) : pf_bk (bl ||| 2 ^ x) (upd bk x 1) := by
  intro y hy
  rw [Nat.testBit_or, Nat.testBit_two_pow]
  by_cases e : y = x
  · subst e
    rw [pk_us, decide_eq_true rfl, Bool.or_true, if_pos rfl]
  · rw [pk_un e, decide_eq_false (fun z => e z.symm), Bool.or_false]
    exact h y hy
theorem pf_bk_clr {bl x : Nat} {bk : Nat → Int32} (h : pf_bk bl bk) : pf_bk (bl &&& (2 ^ x ^^^ 4294967295)) (upd bk x 0) := by
  intro y hy
  rw [pf_clr bl x y hy]
  by_cases e : y = x
  · subst e
    rw [pk_us, decide_eq_true rfl, Bool.not_true, Bool.and_false, if_neg (by decide)]
  · rw [pk_un e, decide_eq_false (fun z => e z.symm), Bool.not_false, Bool.and_true]
    exact h y hy
theorem i_vc_block {k : Nat} {u : SX} {v : SY} (I : i_Rel k u v) (hk : k + 3 ≤ 1536) (v1 : Int32) (v2 : Int32) : wpX_block (fun r u' => wpY_block (fun r' v' => r' = r ∧ i_Rel (k + 3) u' v') v v1 v2) u v1 v2 := by
  have I0 := I
  obtain ⟨bl, A, B, ld, gn, rk, lo, wt, sr, gr, pl, pn, fp, fc, bk, st, gl, wk, ow, tr, tk, wy, kp, ko, rfl, rfl, R, D⟩ := I
  obtain ⟨r1, r2, r3, r4, r5, r6, r7, r8, r9, r10, r11, r12⟩ := R
  unfold wpX_block
  dsimp only
  have bad : (v1 < 0 ∨ 30 ≤ v1) → wpY_block (fun r' v' => r' = -1 ∧ i_Rel (k + 3) (nI bl, nI (pf_cn A), nI (pf_L bl A B).length, ld, wt, sr, gr, pl, pn, fp, fc) v') (nI (pf_cn A), gn, rk, lo, bk, wt, st, gl, wk, ow, tr, tk, wy, kp, ko) v1 v2 := by
    intro hb
    unfold wpY_block
    dsimp only
    refine yt_noCell_t hb ?_
    exact br_f (by decide) ⟨rfl, I0⟩
  rcases pk_ix v1 (n := 30) (by decide) with h | h | ⟨x, hx, rfl⟩
  · refine xt_isCell_f (Or.inl h) ?_
    exact br_t rfl (bad (Or.inl h))
  · refine xt_isCell_f (Or.inr h) ?_
    exact br_t rfl (bad (Or.inr h))
  · have cx : (nI x).toNatClampNeg = x := nI_clamp (by omega)
    have vx : vp_in (nI x) 30 := vp_in_nI hx (by decide)
    have hsA := pf_hs r3 r6
    have hsB : ∀ i, i < pf_cn A → pf_m B i < 5 := fun i hi => pf_m5 B r4 i (by omega)
    refine xt_isCell_t hx ?_
    refine br_f (by decide) (nm_r (e' := nI (bl / 2 ^ x % 2)) (pf_bit (by omega) (by omega)) ?_)
    have Yb : ∀ (bl' : Nat) (z : Int32) (pl' pn' fp' fc' : Nat → Int32), (v2 = 0 → z = 0) → (¬ v2 = 0 → z = 1) → bl' < 2 ^ 30 → pf_bk bl' (upd bk x z) → pf_XF (pf_L bl' A B) fp' fc' →
        wpY_block (fun r' v' => r' = nI (bl / 2 ^ x % 2) ∧ i_Rel (k + 3) (nI bl', nI (pf_cn A), nI (pf_L bl' A B).length, -4, wt, sr, gr, pl', pn', fp', fc') v') (nI (pf_cn A), gn, rk, lo, bk, wt, st, gl, wk, ow, tr, tk, wy, kp, ko) (nI x) v2 := by
      intro bl' z pl' pn' fp' fc' z0 z1 hbl' hbk' hX'
      have fin : ∀ old : Int32, old = nI (bl / 2 ^ x % 2) → wY_block_24 (fun r' v' => r' = nI (bl / 2 ^ x % 2) ∧ i_Rel (k + 3) (nI bl', nI (pf_cn A), nI (pf_L bl' A B).length, -4, wt, sr, gr, pl', pn', fp', fc') v') (nI x) v2 old (nI (pf_cn A)) gn rk lo bk wt st gl wk ow tr tk wy kp ko := by
        intro old ho
        have R1 : pf_R0 bl' A B sr gr fp' fc' (upd bk x z) st gl := ⟨hbl', r2, r3, r4, r5, r6, r7, r8, hX', hbk', r11, r12⟩
        by_cases h2 : v2 = 0
        · have ez := z0 h2
          subst ez
          exact br_t h2 ⟨vx, nm_r (e' := upd bk x 0) (by rw [cx, yt_b0]) ⟨ho, pf_mkRel R1 (Or.inl ⟨rfl, rfl, rfl⟩)⟩⟩
        · have ez := z1 h2
          subst ez
          exact br_f h2 ⟨vx, nm_r (e' := upd bk x 1) (by rw [cx, yt_b1]) ⟨ho, pf_mkRel R1 (Or.inl ⟨rfl, rfl, rfl⟩)⟩⟩
      have eb : bk (nI x).toNatClampNeg = 0 ↔ ¬ bl.testBit x = true := by rw [cx]; exact yt_bit r10 hx
      unfold wpY_block
      dsimp only
      refine yt_noCell_f hx ?_
      refine br_t rfl ⟨vx, ?_⟩
      by_cases hb : bl.testBit x = true
      · exact br_f (fun z => eb.mp z hb) (fin 1 (by rw [pf_tb, if_pos hb]; rfl))
      · exact br_t (eb.mpr hb) (fin 0 (by rw [pf_tb, if_neg hb]; rfl))
    by_cases h2 : v2 = 0
    · have e : nI bl &&& (((1 : Int32) <<< (nI x &&& 31)) ^^^ (-1)) = nI (bl &&& (2 ^ x ^^^ 4294967295)) := by
        rw [pf_one (by omega), show (-1 : Int32) = nI 4294967295 from by decide +kernel, nx_xor, nx_and]
      have hle : bl &&& (2 ^ x ^^^ 4294967295) ≤ bl := Nat.and_le_left
      refine br_t h2 (nm_r e (xt_listAnew (by omega) r6 hsA hsB r7 r8 (pf_L490 _ A B r3 r4 r5 r6) (fun pl' pn' fp' fc' hF => ?_)))
      exact Yb _ 0 pl' pn' fp' fc' (fun _ => rfl) (fun z => absurd h2 z) (by omega) (pf_bk_clr r10) (pf_LXF r2 r3 r4 r6 hF)
    · have e : nI bl ||| ((1 : Int32) <<< (nI x &&& 31)) = nI (bl ||| 2 ^ x) := by
        rw [pf_one (by omega), pf_or]
      have hlt : bl ||| 2 ^ x < 2 ^ 30 := Nat.or_lt_two_pow r1 (Nat.pow_lt_pow_right (by decide) hx)
      refine br_f h2 (nm_r e (xt_listAnew hlt r6 hsA hsB r7 r8 (pf_L490 _ A B r3 r4 r5 r6) (fun pl' pn' fp' fc' hF => ?_)))
      exact Yb _ 1 pl' pn' fp' fc' (fun z => absurd z h2) (fun _ => rfl) hlt (pf_bk_set r10) (pf_LXF r2 r3 r4 r6 hF)
theorem pf_rs (v : Int32) : v < 1 ∨ 31 < v ∨ ∃ A : Nat, 0 < A ∧ A < 32 ∧ v = nI A := by
  rcases pk_ix v (n := 32) (by decide) with h | h | ⟨j, hj, rfl⟩
  · exact Or.inl (Int32.lt_trans h (by decide))
  · exact Or.inr (Or.inl (Int32.lt_of_lt_of_le (by decide) h))
  · by_cases h0 : j = 0
    · subst h0
      exact Or.inl (by decide)
    · exact Or.inr (Or.inr ⟨j, by omega, hj, rfl⟩)
theorem pf_ge1 {A : Nat} (h0 : 0 < A) (h : A < 32) : ¬ nI A < 1 := nI_nlt (b := 1) h0 (by omega)
theorem pf_le31 {A : Nat} (h : A < 32) : ¬ (31 : Int32) < nI A := nI_nlt (a := 31) (b := A) (by omega) (by decide)
theorem xt_rs_t {post : Int32 → Prop} {A : Nat} (h0 : 0 < A) (h : A < 32) (hp : post 1) : wpX_isRowSet post (nI A) := br_f (pf_ge1 h0 h) (br_f (pf_le31 h) hp)
theorem xt_rs_f {post : Int32 → Prop} {p : Int32} (h : p < 1 ∨ 31 < p) (hp : post 0) : wpX_isRowSet post p := br_c (fun _ => hp) (fun hn => br_t (h.resolve_left hn) hp)
theorem i_vc_ends {k : Nat} {u : SX} {v : SY} (I : i_Rel k u v) (hk : k + 3 ≤ 1536) (v1 : Int32) (v2 : Int32) : wpX_ends (fun r u' => wpY_ends (fun r' v' => r' = r ∧ i_Rel (k + 3) u' v') v v1 v2) u v1 v2 := by
  have I0 := I
  obtain ⟨bl, A, B, ld, gn, rk, lo, wt, sr, gr, pl, pn, fp, fc, bk, st, gl, wk, ow, tr, tk, wy, kp, ko, rfl, rfl, R, D⟩ := I
  obtain ⟨r1, r2, r3, r4, r5, r6, r7, r8, r9, r10, r11, r12⟩ := R
  unfold wpX_ends
  dsimp only
  have bad1 : ∀ w1 : Int32, (w1 < 1 ∨ 31 < w1) → wpY_ends (fun r' v' => r' = -1 ∧ i_Rel (k + 3) (nI bl, nI (pf_cn A), nI (pf_L bl A B).length, ld, wt, sr, gr, pl, pn, fp, fc) v') (nI (pf_cn A), gn, rk, lo, bk, wt, st, gl, wk, ow, tr, tk, wy, kp, ko) w1 v2 :=
    fun w1 hb => br_c (fun _ => ⟨rfl, I0⟩) (fun hn => br_t (hb.resolve_left hn) ⟨rfl, I0⟩)
  have bad2 : ∀ P : Nat, 0 < P → P < 32 → (v2 < 1 ∨ 31 < v2) → wpY_ends (fun r' v' => r' = -1 ∧ i_Rel (k + 3) (nI bl, nI (pf_cn A), nI (pf_L bl A B).length, ld, wt, sr, gr, pl, pn, fp, fc) v') (nI (pf_cn A), gn, rk, lo, bk, wt, st, gl, wk, ow, tr, tk, wy, kp, ko) (nI P) v2 :=
    fun P p0 p1 hb => br_f (pf_ge1 p0 p1) (br_f (pf_le31 p1) (br_c (fun _ => ⟨rfl, I0⟩) (fun hn => br_f (Int32.not_le.mpr (hb.resolve_left hn)) ⟨rfl, I0⟩)))
  rcases pf_rs v1 with h | h | ⟨P, p0, p1, rfl⟩
  · refine xt_rs_f (Or.inl h) ?_
    exact br_t rfl (bad1 v1 (Or.inl h))
  · refine xt_rs_f (Or.inr h) ?_
    exact br_t rfl (bad1 v1 (Or.inr h))
  · refine xt_rs_t p0 p1 ?_
    refine br_f (by decide) ?_
    rcases pf_rs v2 with h | h | ⟨G, g0, g1, rfl⟩
    · refine xt_rs_f (Or.inl h) ?_
      exact br_t rfl (bad2 P p0 p1 (Or.inl h))
    · refine xt_rs_f (Or.inr h) ?_
      exact br_t rfl (bad2 P p0 p1 (Or.inr h))
    · refine xt_rs_t g0 g1 ?_
      refine br_f (by decide) ?_
      have cP := pf_cnP P p1
      have cG := pf_cnP G g1
      have lP : pf_cn P ≤ 5 := List.length_filter_le (fun r => P.testBit r) (List.range 5)
      have lG : pf_cn G ≤ 5 := List.length_filter_le (fun r => G.testBit r) (List.range 5)
      have Yw : ∀ post : Int32 → SY → Prop, (¬ (pf_cn P = pf_cn G ∧ pf_cn P ≤ 4) → post (-1) (nI (pf_cn A), gn, rk, lo, bk, wt, st, gl, wk, ow, tr, tk, wy, kp, ko)) →
          (pf_cn P = pf_cn G → pf_cn P ≤ 4 → ∀ st' gl', pf_rw (fun x => x) (pf_lr P 5) st' → pf_rw (fun x => 25 + x) (pf_lr G 5) gl' → post (nI (pf_cn P)) (nI (pf_cn P), gn, -4, 0, bk, wt, st', gl', wk, ow, tr, tk, wy, kp, ko)) →
          wpY_ends post (nI (pf_cn A), gn, rk, lo, bk, wt, st, gl, wk, ow, tr, tk, wy, kp, ko) (nI P) (nI G) := by
        intro post n1 n2
        refine br_f (pf_ge1 p0 p1) (br_f (pf_le31 p1) (br_f (pf_ge1 g0 g1) (br_t (nI_le (b := 31) (by omega) (by decide)) ?_)))
        refine yt_size (m := P) (by omega) ?_
        refine yt_size (m := G) (by omega) ?_
        rw [cP.2, cG.2]
        refine pk_eq (pf_cn P) (pf_cn G) (fun e => ?_) (fun e => n1 (fun z => e z.1)) rfl rfl (by omega) (by omega)
        refine pk_le (pf_cn P) 4 (fun e4 => ?_) (fun e4 => n1 (fun z => absurd z.2 (by omega))) rfl rfl (by omega) (by omega)
        exact ⟨6, yt_60 p1 g1 e4 (by omega) (n2 e e4) 5 0 st gl rfl (fun k hk => absurd hk (Nat.not_lt_zero _)) (fun k hk => absurd hk (Nat.not_lt_zero _))⟩
      refine xt_countBits (m := P) (by omega) ?_
      rw [cP.1]
      refine pk_lt 4 (pf_cn P) (fun e4 => Yw _ (fun _ => ⟨rfl, I0⟩) (fun _ z => absurd z (by omega))) (fun e4 => ?_) rfl rfl (by omega) (by omega)
      refine xt_countBits (m := G) (by omega) ?_
      rw [cG.1]
      refine pk_eq (pf_cn P) (pf_cn G) (fun e => ?_) (fun e => Yw _ (fun _ => ⟨rfl, I0⟩) (fun z _ => absurd z e)) rfl rfl (by omega) (by omega)
      refine ⟨_, xt_ends_l p1 g1 rfl e.symm e4 (fun sr' gr' hs' hg' => ?_) (pf_cn P) 0 sr gr (by omega) (fun k hk => absurd hk (Nat.not_lt_zero _)) (fun k hk => absurd hk (Nat.not_lt_zero _))⟩
      refine xt_listAnew r1 e4 (pf_hs p1 e4) (fun i hi => pf_m5 G g1 i (by omega)) hs' hg' (pf_L490 bl P G p1 g1 e e4) (fun pl' pn' fp' fc' hF => ?_)
      refine Yw _ (fun z => absurd ⟨e, e4⟩ z) (fun _ _ st' gl' hst hgl => ⟨rfl, ?_⟩)
      exact pf_mkRel (bl := bl) (A := P) (B := G) ⟨r1, p0, p1, g1, e, e4, hs', hg', pf_LXF p0 p1 g1 e4 hF, r10, fun i hi => hst i hi, fun i hi => hgl i (by rw [e] at hi; exact hi)⟩ (Or.inl ⟨rfl, rfl, rfl⟩)
def pf_w1 (i : Nat) : Nat → Int32 := fun j => if j < i then 1 else 0
theorem pf_w1_s (i : Nat) : upd (pf_w1 i) i 1 = pf_w1 (i + 1) := by
  funext j
  by_cases e : j = i
  · subst e
    rw [pk_us, pf_w1, if_pos (Nat.lt_succ_self _)]
  · rw [pk_un e, pf_w1, pf_w1]
    by_cases h : j < i
    · rw [if_pos h, if_pos (by omega)]
    · rw [if_neg h, if_neg (by omega)]
theorem pf_1 : pf_cn 1 = 1 ∧ pf_cn 16 = 1 ∧ pf_m 1 0 = 0 ∧ pf_m 16 0 = 4 := by decide +kernel
theorem yt_init {post : SY → Prop} (h : post (1, 0, -4, 0, (fun _ => 0), pf_w1 30, upd (fun _ => 0) 0 0, upd (fun _ => 0) 0 29, (fun _ => 0), (fun _ => 0), (fun _ => 0), (fun _ => 0), (fun _ => 0), (fun _ => 0), (fun _ => 0))) : wpY_init post := by
  refine loop_0 (fun n i (wt : Nat → Int32) => wY_init_92 post 0 0 0 0 n (nI i) (fun _ => 0) wt (fun _ => 0) (fun _ => 0) (fun _ => 0) (fun _ => 0) (fun _ => 0) (fun _ => 0) (fun _ => 0) (fun _ => 0) (fun _ => 0)) (fun i wt => wt = pf_w1 i) 30 (fun _ => 0) rfl ?_ ?_
  · intro n wt hw
    subst hw
    exact br_t xt_30 (nm_e (nm_e h))
  · intro n i wt hi hw hn
    subst hw
    exact br_f (xt_in30 hi) ⟨vp_in_nI hi (by decide), nm_r (e' := pf_w1 (i + 1)) (by rw [nI_clamp (by omega), pf_w1_s]) (nm_r (nI_1 i) (hn _ rfl))⟩
theorem xt_init {post : SX → Prop} (h : wpX_listAnew post (0, 1, 0, 0, pf_w1 30, upd (fun _ => 0) 0 0, upd (fun _ => 0) 0 4, (fun _ => 0), (fun _ => 0), (fun _ => 0), (fun _ => 0))) : wpX_init post := by
  refine loop_0 (fun n i (wt : Nat → Int32) => wX_init_62 post 0 0 0 0 n (nI i) wt (fun _ => 0) (fun _ => 0) (fun _ => 0) (fun _ => 0) (fun _ => 0) (fun _ => 0)) (fun i wt => wt = pf_w1 i) 30 (fun _ => 0) rfl ?_ ?_
  · intro n wt hw
    subst hw
    exact br_t xt_30 (nm_e (nm_e h))
  · intro n i wt hi hw hn
    subst hw
    exact br_f (xt_in30 hi) ⟨vp_in_nI hi (by decide), nm_r (e' := pf_w1 (i + 1)) (by rw [nI_clamp (by omega), pf_w1_s]) (nm_r (nI_1 i) (hn _ rfl))⟩
theorem i_vc0 : wpX_init (fun u => wpY_init (fun v => i_Rel 0 u v)) := by
  obtain ⟨c1, c16, m1, m16⟩ := pf_1
  have i0 : ∀ i, i < pf_cn 1 → i = 0 := by intro i hi; rw [c1] at hi; omega
  have hc : pf_cn 1 ≤ 4 := by rw [c1]; decide
  have ec : pf_cn 1 = pf_cn 16 := c1.trans c16.symm
  have hsr : ∀ i, i < pf_cn 1 → upd (fun _ => 0) 0 0 i = nI (pf_m 1 i) := by
    intro i hi
    rw [i0 i hi, m1, pk_us]; rfl
  have hgr : ∀ i, i < pf_cn 1 → upd (fun _ => 0) 0 4 i = nI (pf_m 16 i) := by
    intro i hi
    rw [i0 i hi, m16, pk_us]; rfl
  have hgl : ∀ i, i < pf_cn 1 → upd (fun _ => 0) 0 29 i = nI (25 + pf_m 16 i) := by
    intro i hi
    rw [i0 i hi, m16, pk_us]; rfl
  have e1 : (1 : Int32) = nI (pf_cn 1) := by rw [c1]; rfl
  refine xt_init ?_
  rw [e1]
  refine xt_listAnew (bl := 0) (c := pf_cn 1) (s := pf_m 1) (g := pf_m 16) (by decide) hc (pf_hs (by decide) hc) (fun i hi => pf_m5 16 (by decide) i (by omega)) hsr hgr (pf_L490 0 1 16 (by decide) (by decide) ec hc) (fun pl' pn' fp' fc' hF => ?_)
  refine yt_init ?_
  rw [e1]
  exact pf_mkRel (bl := 0) (A := 1) (B := 16) ⟨by decide, by decide, by decide, by decide, ec, hc, hsr, hgr, pf_LXF (by decide) (by decide) (by decide) hc hF, fun x _ => by rw [Nat.zero_testBit]; rfl, hsr, hgl⟩ (Or.inl ⟨rfl, rfl, rfl⟩)
end
