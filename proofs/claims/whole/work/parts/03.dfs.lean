/-! the walker: stacks of (cell, path, ways tried), the top first -/
def pf_st (S : List (Nat × Nat × Nat)) : List (Nat × Nat) := S.map (fun p => (p.1, p.2.1))
def pf_step (bl x i : Nat) (S : List (Nat × Nat × Nat)) : List (Nat × Nat × Nat) :=
  if bl.testBit x = true ∨ (pf_ms (pf_st S)).testBit x = true then S else (x, i, 0) :: S
def pf_go (bl : Nat) (s g : Nat → Nat) (c : Nat) : List (Nat × Nat × Nat) → List (Nat × Nat × Nat)
  | [] => []
  | (x, i, t) :: S => if t = 2 then S else
      if x = 25 + g i then (if t = 0 ∧ i + 1 < c then pf_step bl (s (i + 1)) (i + 1) ((x, i, t + 1) :: S) else (x, i, t + 1) :: S) else
      if t = 0 then (if x < 25 then pf_step bl (x + 5) i ((x, i, t + 1) :: S) else (x, i, t + 1) :: S) else
      (if x % 5 < (25 + g i) % 5 then pf_step bl (x + 1) i ((x, i, t + 1) :: S) else (x, i, t + 1) :: S)
def pf_cm (g : Nat → Nat) (c : Nat) : List (Nat × Nat × Nat) → Prop
  | [] => False
  | (x, i, t) :: _ => x = 25 + g (c - 1) ∧ i = c - 1 ∧ t = 0
def pf_Tr (bl : Nat) (s g : Nat → Nat) (c : Nat) : Nat → List (Nat × Nat × Nat) → List (List (Nat × Nat)) → Prop
  | 0, _, _ => False
  | n + 1, S, L => (S = [] ∧ L = []) ∨
      (S ≠ [] ∧ pf_cm g c S ∧ ∃ L' : List (List (Nat × Nat)), L = pf_st S :: L' ∧ pf_Tr bl s g c n (pf_go bl s g c S) L') ∨
      (S ≠ [] ∧ ¬ pf_cm g c S ∧ pf_Tr bl s g c n (pf_go bl s g c S) L)
def pf_T (bl : Nat) (s g : Nat → Nat) (c : Nat) (S : List (Nat × Nat × Nat)) (L : List (List (Nat × Nat))) : Prop := ∃ n : Nat, pf_Tr bl s g c n S L
theorem pf_T_0 (bl : Nat) (s g : Nat → Nat) (c : Nat) : pf_T bl s g c [] [] := ⟨1, Or.inl ⟨rfl, rfl⟩⟩
theorem pf_T_c {bl : Nat} {s g : Nat → Nat} {c : Nat} {S : List (Nat × Nat × Nat)} {L : List (List (Nat × Nat))} (h0 : S ≠ []) (hc : pf_cm g c S) (h : pf_T bl s g c (pf_go bl s g c S) L) : pf_T bl s g c S (pf_st S :: L) := by
  obtain ⟨n, hn⟩ := h
  exact ⟨n + 1, Or.inr (Or.inl ⟨h0, hc, L, rfl, hn⟩)⟩
theorem pf_T_n {bl : Nat} {s g : Nat → Nat} {c : Nat} {S : List (Nat × Nat × Nat)} {L : List (List (Nat × Nat))} (h0 : S ≠ []) (hc : ¬ pf_cm g c S) (h : pf_T bl s g c (pf_go bl s g c S) L) : pf_T bl s g c S L := by
  obtain ⟨n, hn⟩ := h
  exact ⟨n + 1, Or.inr (Or.inr ⟨h0, hc, hn⟩)⟩
theorem pf_T_2 {bl : Nat} {s g : Nat → Nat} {c : Nat} {S : List (Nat × Nat × Nat)} {L : List (List (Nat × Nat))} (x i : Nat) (h : pf_T bl s g c S L) : pf_T bl s g c ((x, i, 2) :: S) L := by
  apply pf_T_n (by simp)
  · intro hc
    exact absurd hc.2.2 (by decide)
  · rw [pf_go, if_pos rfl]
    exact h
theorem pf_T_1 {bl : Nat} {s g : Nat → Nat} {c : Nat} {S : List (Nat × Nat × Nat)} {L : List (List (Nat × Nat))} (i : Nat) (h : pf_T bl s g c S L) : pf_T bl s g c ((25 + g i, i, 1) :: S) L := by
  apply pf_T_n (by simp)
  · intro hc
    exact absurd hc.2.2 (by decide)
  · rw [pf_go, if_neg (by decide), if_pos rfl, if_neg (fun z => absurd z.1 (by decide))]
    exact pf_T_2 _ _ h
theorem pf_dfs_ex (bl : Nat) (s g : Nat → Nat) (c i : Nat) (K : List (Nat × Nat) → List (List (Nat × Nat)))
    (HK : ∀ (S : List (Nat × Nat × Nat)) (L : List (List (Nat × Nat))), pf_T bl s g c S L → pf_T bl s g c ((25 + g i, i, 0) :: S) (K ((25 + g i, i) :: pf_st S) ++ L)) :
    ∀ (n x : Nat) (S : List (Nat × Nat × Nat)) (L : List (List (Nat × Nat))), (5 - x / 5) + ((25 + g i) % 5 - x % 5) < n → pf_T bl s g c S L →
      pf_T bl s g c (pf_step bl x i S) (pf_ex bl (25 + g i) i K n x (pf_st S) ++ L) := by
  intro n
  induction n with
  | zero => intro x S L h; exact absurd h (Nat.not_lt_zero _)
  | succ n ih =>
    intro x S L hn hT
    rw [pf_step, pf_ex]
    by_cases hB : bl.testBit x = true ∨ (pf_ms (pf_st S)).testBit x = true
    · rw [if_pos hB, if_pos hB]
      exact hT
    · rw [if_neg hB, if_neg hB]
      by_cases hg : x = 25 + g i
      · rw [if_pos hg, hg]
        exact HK S L hT
      · rw [if_neg hg]
        apply pf_T_n (by simp)
        · intro hc
          obtain ⟨h1, h2, _⟩ := hc
          rw [← h2] at h1
          exact hg h1
        · rw [pf_go, if_neg (by decide), if_neg hg, if_pos rfl, List.append_assoc]
          have hd : pf_T bl s g c ((x, i, 1) :: S) ((if x % 5 < (25 + g i) % 5 then pf_ex bl (25 + g i) i K n (x + 1) ((x, i) :: pf_st S) else []) ++ L) := by
            apply pf_T_n (by simp)
            · intro hc
              exact absurd hc.2.2 (by decide)
            · rw [pf_go, if_neg (by decide), if_neg hg, if_neg (by decide)]
              by_cases h5 : x % 5 < (25 + g i) % 5
              · rw [if_pos h5, if_pos h5]
                exact ih (x + 1) ((x, i, 2) :: S) L (by omega) (pf_T_2 x i hT)
              · rw [if_neg h5, if_neg h5]
                exact pf_T_2 x i hT
          by_cases h25 : x < 25
          · rw [if_pos h25, if_pos h25]
            exact ih (x + 5) ((x, i, 1) :: S) _ (by omega) hd
          · rw [if_neg h25, if_neg h25]
            exact hd
theorem pf_dfs_F (bl : Nat) (s g : Nat → Nat) (c : Nat) (hs : ∀ i, i < c → s i < 5) : ∀ (m i : Nat) (S : List (Nat × Nat × Nat)) (L : List (List (Nat × Nat))), i + (m + 1) = c → pf_T bl s g c S L →
    pf_T bl s g c (pf_step bl (s i) i S) (pf_F bl s g (m + 1) i (pf_st S) ++ L) := by
  intro m
  induction m with
  | zero =>
    intro i S L hi hT
    rw [pf_F]
    have h5 := hs i (by omega)
    refine pf_dfs_ex bl s g c i _ ?_ 10 (s i) S L (by omega) hT
    intro S L hT
    have e : i = c - 1 := by omega
    apply pf_T_c (S := (25 + g i, i, 0) :: S) (by simp)
    · exact ⟨by rw [← e], e, rfl⟩
    · rw [pf_go, if_neg (by decide), if_pos rfl, if_neg (fun z => absurd z.2 (by omega))]
      exact pf_T_1 i hT
  | succ m ih =>
    intro i S L hi hT
    rw [pf_F]
    have h5 := hs i (by omega)
    refine pf_dfs_ex bl s g c i _ ?_ 10 (s i) S L (by omega) hT
    intro S L hT
    apply pf_T_n (by simp)
    · intro hc
      exact absurd hc.2.1 (by omega)
    · rw [pf_go, if_neg (by decide), if_pos rfl, if_pos ⟨rfl, by omega⟩]
      exact ih (i + 1) ((25 + g i, i, 1) :: S) L (by omega) (pf_T_1 i hT)
theorem pf_dfs (bl : Nat) (s g : Nat → Nat) (c : Nat) (hc : 0 < c) (hs : ∀ i, i < c → s i < 5) : pf_T bl s g c (pf_step bl (s 0) 0 []) (pf_F bl s g c 0 []) := by
  obtain ⟨m, rfl⟩ : ∃ m, c = m + 1 := ⟨c - 1, by omega⟩
  have h := pf_dfs_F bl s g (m + 1) hs m 0 [] [] (by omega) (pf_T_0 bl s g (m + 1))
  rw [List.append_nil] at h
  exact h
/-! what every stack of the walker keeps -/
def pf_Ok (c : Nat) (S : List (Nat × Nat × Nat)) : Prop :=
  S.Pairwise (fun p q => q.2.1 ≤ p.2.1 ∧ (q.2.1 = p.2.1 → q.1 < p.1)) ∧ (S.map (fun p => p.1)).Nodup ∧ ∀ p, p ∈ S → p.1 < 30 ∧ p.2.1 < c ∧ p.2.2 ≤ 2
theorem pf_st_map (S : List (Nat × Nat × Nat)) : (pf_st S).map (fun p => p.1) = S.map (fun p => p.1) := by
  rw [pf_st, List.map_map]
  rfl
theorem pf_st_bit (S : List (Nat × Nat × Nat)) (x : Nat) : (pf_ms (pf_st S)).testBit x = decide (x ∈ S.map (fun p => p.1)) := by
  rw [pf_ms_mask, pf_mask_bit, pf_st_map]
theorem pf_Ok_0 (c : Nat) : pf_Ok c [] := ⟨List.Pairwise.nil, List.nodup_nil, fun p hp => absurd hp (by simp)⟩
theorem pf_Ok_len {c : Nat} {S : List (Nat × Nat × Nat)} (h : pf_Ok c S) : S.length ≤ 30 := by
  have := pf_pig 30 _ h.2.1 (fun x hx => by
    obtain ⟨p, hp, rfl⟩ := List.mem_map.mp hx
    exact (h.2.2 p hp).1)
  rw [List.length_map] at this
  exact this
theorem pf_Ok_t {c x i t t' : Nat} {S : List (Nat × Nat × Nat)} (h : pf_Ok c ((x, i, t) :: S)) (ht : t' ≤ 2) : pf_Ok c ((x, i, t') :: S) := by
  obtain ⟨h1, h2, h3⟩ := h
  rw [List.pairwise_cons] at h1
  refine ⟨List.pairwise_cons.mpr ⟨h1.1, h1.2⟩, h2, ?_⟩
  intro p hp
  rcases List.mem_cons.mp hp with e | e
  · have := h3 _ (List.mem_cons_self ..)
    subst e
    exact ⟨this.1, this.2.1, ht⟩
  · exact h3 p (List.mem_cons_of_mem _ e)
theorem pf_Ok_tl {c : Nat} {p : Nat × Nat × Nat} {S : List (Nat × Nat × Nat)} (h : pf_Ok c (p :: S)) : pf_Ok c S := by
  obtain ⟨h1, h2, h3⟩ := h
  rw [List.map_cons, List.nodup_cons] at h2
  exact ⟨(List.pairwise_cons.mp h1).2, h2.2, fun q hq => h3 q (List.mem_cons_of_mem _ hq)⟩
theorem pf_Ok_step {c bl x i : Nat} {S : List (Nat × Nat × Nat)} (h : pf_Ok c S) (hx : x < 30) (hi : i < c) (hq : ∀ q, q ∈ S → q.2.1 ≤ i ∧ (q.2.1 = i → q.1 < x)) : pf_Ok c (pf_step bl x i S) := by
  rw [pf_step]
  by_cases hB : bl.testBit x = true ∨ (pf_ms (pf_st S)).testBit x = true
  · rw [if_pos hB]
    exact h
  · rw [if_neg hB]
    obtain ⟨h1, h2, h3⟩ := h
    refine ⟨List.pairwise_cons.mpr ⟨fun q hm => hq q hm, h1⟩, ?_, ?_⟩
    · rw [List.map_cons, List.nodup_cons]
      refine ⟨fun hm => hB (Or.inr ?_), h2⟩
      rw [pf_st_bit]
      exact decide_eq_true hm
    · intro p hp
      rcases List.mem_cons.mp hp with e | e
      · subst e
        exact ⟨hx, hi, Nat.zero_le _⟩
      · exact h3 p e
theorem pf_Ok_go {c bl : Nat} {s g : Nat → Nat} (hs : ∀ i, i < c → s i < 5) (hg : ∀ i, i < c → g i < 5) {S : List (Nat × Nat × Nat)} (h : pf_Ok c S) : pf_Ok c (pf_go bl s g c S) := by
  cases S with
  | nil => exact h
  | cons p S =>
    obtain ⟨x, i, t⟩ := p
    have hp := h.2.2 _ (List.mem_cons_self ..)
    have hx : x < 30 := hp.1
    have hi : i < c := hp.2.1
    have ht : t ≤ 2 := hp.2.2
    have hgi := hg i hi
    have hpw := (List.pairwise_cons.mp h.1).1
    rw [pf_go]
    by_cases h2 : t = 2
    · rw [if_pos h2]
      exact pf_Ok_tl h
    · rw [if_neg h2]
      have hk : pf_Ok c ((x, i, t + 1) :: S) := pf_Ok_t h (by omega)
      have hup : ∀ y, x < y → ∀ q, q ∈ (x, i, t + 1) :: S → q.2.1 ≤ i ∧ (q.2.1 = i → q.1 < y) := by
        intro y hy q hq
        rcases List.mem_cons.mp hq with e | e
        · subst e
          exact ⟨Nat.le_refl _, fun _ => hy⟩
        · have h6 := hpw q e
          exact ⟨h6.1, fun e6 => Nat.lt_trans (h6.2 e6) hy⟩
      by_cases hG : x = 25 + g i
      · rw [if_pos hG]
        by_cases hc : t = 0 ∧ i + 1 < c
        · rw [if_pos hc]
          refine pf_Ok_step hk (by have := hs (i + 1) hc.2; omega) hc.2 ?_
          intro q hq
          rcases List.mem_cons.mp hq with e | e
          · subst e
            exact ⟨Nat.le_succ _, fun e6 => absurd e6 (by show ¬ i = i + 1; omega)⟩
          · have h6 := (hpw q e).1
            have h7 : q.2.1 ≤ i := h6
            exact ⟨by omega, fun e6 => absurd e6 (by omega)⟩
        · rw [if_neg hc]
          exact hk
      · rw [if_neg hG]
        by_cases h0 : t = 0
        · rw [if_pos h0]
          by_cases h25 : x < 25
          · rw [if_pos h25]
            exact pf_Ok_step hk (by omega) hi (hup _ (by omega))
          · rw [if_neg h25]
            exact hk
        · rw [if_neg h0]
          by_cases h5 : x % 5 < (25 + g i) % 5
          · rw [if_pos h5]
            exact pf_Ok_step hk (by omega) hi (hup _ (by omega))
          · rw [if_neg h5]
            exact hk
