/-! a walk laid out from its first cell on -/
def pf_lay (w o : Nat → Int32) : List (Nat × Nat) → Nat → Prop
  | [], _ => True
  | p :: R, k => w k = nI p.1 ∧ o k = nI p.2 ∧ pf_lay w o R (k + 1)
theorem pf_lay_app (w o : Nat → Int32) (p : Nat × Nat) : ∀ (R : List (Nat × Nat)) (k : Nat), pf_lay w o R k → w (k + R.length) = nI p.1 → o (k + R.length) = nI p.2 → pf_lay w o (R ++ [p]) k := by
  intro R
  induction R with
  | nil => intro k _ h1 h2; exact ⟨h1, h2, trivial⟩
  | cons q R ih =>
    intro k h h1 h2
    obtain ⟨a, b, c⟩ := h
    refine ⟨a, b, ih (k + 1) c ?_ ?_⟩
    · rw [show k + 1 + R.length = k + (q :: R).length by simp; omega]; exact h1
    · rw [show k + 1 + R.length = k + (q :: R).length by simp; omega]; exact h2
theorem pf_lay_fr (w o w' o' : Nat → Int32) : ∀ (R : List (Nat × Nat)) (k : Nat), (∀ j, j < k + R.length → w' j = w j ∧ o' j = o j) → pf_lay w o R k → pf_lay w' o' R k := by
  intro R
  induction R with
  | nil => intro k _ _; trivial
  | cons q R ih =>
    intro k h hl
    obtain ⟨a, b, c⟩ := hl
    have hk := h k (by simp)
    exact ⟨hk.1.trans a, hk.2.trans b, ih (k + 1) (fun j hj => h j (by simp; omega)) c⟩
theorem pf_rep_lay {w o t : Nat → Int32} : ∀ S : List (Nat × Nat × Nat), pf_rep w o t S → pf_lay w o (pf_st S).reverse 0 := by
  intro S
  induction S with
  | nil => intro _; trivial
  | cons p S ih =>
    intro h
    obtain ⟨h1, h2, h3, h4⟩ := h
    have e : (pf_st (p :: S)).reverse = (pf_st S).reverse ++ [(p.1, p.2.1)] := by
      rw [pf_st, List.map_cons, List.reverse_cons]
      rfl
    have el : (pf_st S).reverse.length = S.length := by rw [List.length_reverse, pf_st, List.length_map]
    rw [e]
    refine pf_lay_app w o (p.1, p.2.1) _ 0 (ih h4) ?_ ?_
    · rw [el, Nat.zero_add]; exact h1
    · rw [el, Nat.zero_add]; exact h2
/-! the product over a walk laid out -/
def pf_fl (w : Nat → Int32) : Int32 → List Nat → Int32
  | a, [] => a
  | a, x :: l => pf_fl w (a * w x) l
theorem pf_fl_lp (w : Nat → Int32) : ∀ (R l : List Nat), pf_fl w (pf_lp w l) R = pf_lp w (R.reverse ++ l) := by
  intro R
  induction R with
  | nil => intro l; rfl
  | cons x R ih =>
    intro l
    rw [pf_fl, List.reverse_cons, List.append_assoc]
    exact ih (x :: l)
theorem pf_fl_S (w : Nat → Int32) (S : List (Nat × Nat)) : pf_fl w 1 (S.reverse.map (fun p => p.1)) = pf_lp w (S.map (fun p => p.1)) := by
  have h := pf_fl_lp w (S.reverse.map (fun p => p.1)) []
  rw [List.append_nil, ← List.map_reverse, List.reverse_reverse] at h
  exact h
/-! a path's cells ascend -/
theorem pf_own_asc {c : Nat} {S : List (Nat × Nat × Nat)} (h : pf_Ok c S) (i : Nat) : (pf_own i (pf_st S)).reverse.Pairwise (fun a b => a < b) := by
  rw [List.pairwise_reverse, pf_own, List.pairwise_map]
  have h1 := h.1
  have h2 : (pf_st S).Pairwise (fun p q => q.2 ≤ p.2 ∧ (q.2 = p.2 → q.1 < p.1)) := by
    rw [pf_st, List.pairwise_map]
    exact h1
  have h3 := List.Pairwise.filter (fun p : Nat × Nat => p.2 == i) h2
  refine List.Pairwise.imp_of_mem ?_ h3
  intro p q hp hq hpq
  have ep : p.2 = i := by simpa using (List.mem_filter.mp hp).2
  have eq : q.2 = i := by simpa using (List.mem_filter.mp hq).2
  exact hpq.2 (by rw [ep, eq])
theorem pf_st_mem {c : Nat} {S : List (Nat × Nat × Nat)} (h : pf_Ok c S) : ∀ p, p ∈ pf_st S → p.1 < 30 ∧ p.2 < c := by
  intro p hp
  rw [pf_st, List.mem_map] at hp
  obtain ⟨q, hq, rfl⟩ := hp
  exact ⟨(h.2.2 q hq).1, (h.2.2 q hq).2.1⟩
theorem pf_own_lt {c : Nat} {S : List (Nat × Nat × Nat)} (h : pf_Ok c S) (i : Nat) : ∀ x, x ∈ pf_own i (pf_st S) → x < 30 := by
  intro x hx
  rw [pf_own_mem] at hx
  exact (pf_st_mem h _ hx).1
theorem pf_mk_lt {c : Nat} {S : List (Nat × Nat × Nat)} (h : pf_Ok c S) (i : Nat) : pf_mk i (pf_st S) < 2 ^ 30 := pf_mask_lt _ (pf_own_lt h i)
theorem pf_ms_lt {c : Nat} {S : List (Nat × Nat × Nat)} (h : pf_Ok c S) : pf_ms (pf_st S) < 2 ^ 30 := by
  rw [pf_ms_mask]
  apply pf_mask_lt
  intro x hx
  obtain ⟨p, hp, rfl⟩ := List.mem_map.mp hx
  exact (pf_st_mem h p hp).1
theorem pf_weight {c : Nat} {S : List (Nat × Nat × Nat)} (h : pf_Ok c S) (w : Nat → Int32) : pf_xp w (pf_ms (pf_st S)) 30 = pf_fl w 1 ((pf_st S).reverse.map (fun p => p.1)) := by
  rw [pf_fl_S, pf_ms_mask, pf_st_map]
  exact pf_xp_lp w 30 _ h.2.1 (fun x hx => by
    obtain ⟨p, hp, rfl⟩ := List.mem_map.mp hx
    exact (h.2.2 p hp).1)
/-! every walk of the list is a good stack -/
theorem pf_Tr_ok {bl : Nat} {s g : Nat → Nat} {c : Nat} (hs : ∀ i, i < c → s i < 5) (hg : ∀ i, i < c → g i < 5) : ∀ (n : Nat) (S : List (Nat × Nat × Nat)) (L : List (List (Nat × Nat))), pf_Tr bl s g c n S L → pf_Ok c S → ∀ V, V ∈ L → ∃ S0, pf_Ok c S0 ∧ V = pf_st S0 := by
  intro n
  induction n with
  | zero => intro S L h; exact absurd h (fun z => z)
  | succ n ih =>
    intro S L h hk V hV
    rcases h with ⟨_, h⟩ | ⟨_, _, L', h, hT⟩ | ⟨_, _, hT⟩
    · rw [h] at hV; simp at hV
    · rw [h] at hV
      rcases List.mem_cons.mp hV with e | e
      · exact ⟨S, hk, e⟩
      · exact ih _ _ hT (pf_Ok_go hs hg hk) V e
    · exact ih _ _ hT (pf_Ok_go hs hg hk) V hV
theorem pf_Ok_begin {bl c : Nat} {s : Nat → Nat} (hc : 0 < c) (hs : ∀ i, i < c → s i < 5) : pf_Ok c (pf_step bl (s 0) 0 []) :=
  pf_Ok_step (pf_Ok_0 c) (by have := hs 0 hc; omega) hc (fun q hq => absurd hq (by simp))
theorem pf_F_ok {bl : Nat} {s g : Nat → Nat} {c : Nat} (hc : 0 < c) (hs : ∀ i, i < c → s i < 5) (hg : ∀ i, i < c → g i < 5) : ∀ V, V ∈ pf_F bl s g c 0 [] → ∃ S0, pf_Ok c S0 ∧ V = pf_st S0 := by
  obtain ⟨n, hn⟩ := pf_dfs bl s g c hc hs
  exact pf_Tr_ok hs hg n _ _ hn (pf_Ok_begin hc hs)
