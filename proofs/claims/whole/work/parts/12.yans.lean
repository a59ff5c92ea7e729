/-! Y's answers over the list of walks -/
def pf_YC (bl c : Nat) (s g : Nat → Nat) (bk st gl : Nat → Int32) : Prop :=
  0 < c ∧ c ≤ 4 ∧ (∀ i, i < c → s i < 5) ∧ (∀ i, i < c → g i < 5) ∧ (∀ i, i < c → st i = nI (s i)) ∧ (∀ i, i < c → gl i = nI (25 + g i)) ∧ pf_bk bl bk
def pf_sw (w : Nat → Int32) : List (List (Nat × Nat)) → Int32 → Int32
  | [], a => a
  | V :: L, a => pf_sw w L (a + pf_xp w (pf_ms V) 30)
def pf_c2 (a b : Nat) : List (List (Nat × Nat)) → Nat → Nat
  | [], k => k
  | V :: L, k => pf_c2 a b L (if (pf_ms V).testBit a = true ∧ (pf_ms V).testBit b = true then k + 1 else k)
theorem pf_c2_le (a b : Nat) : ∀ (L : List (List (Nat × Nat))) (k : Nat), pf_c2 a b L k ≤ k + L.length := by
  intro L
  induction L with
  | nil => intro k; exact Nat.le_refl _
  | cons V L ih =>
    intro k
    rw [pf_c2, List.length_cons]
    by_cases h : (pf_ms V).testBit a = true ∧ (pf_ms V).testBit b = true
    · rw [if_pos h]; have := ih (k + 1); omega
    · rw [if_neg h]; have := ih k; omega
theorem pf_c2_all (a : Nat) : ∀ (L : List (List (Nat × Nat))) (k : Nat), pf_c2 a a L k = k + L.length ↔ ∀ V, V ∈ L → (pf_ms V).testBit a = true := by
  intro L
  induction L with
  | nil => intro k; exact ⟨fun _ V hV => absurd hV (by simp), fun _ => rfl⟩
  | cons V L ih =>
    intro k
    rw [pf_c2, List.length_cons]
    by_cases h : (pf_ms V).testBit a = true
    · rw [if_pos ⟨h, h⟩, show k + (L.length + 1) = (k + 1) + L.length by omega, ih (k + 1)]
      constructor
      · intro e V' hV'
        rcases List.mem_cons.mp hV' with e1 | e1
        · rw [e1]; exact h
        · exact e V' e1
      · intro e V' hV'
        exact e V' (List.mem_cons_of_mem _ hV')
    · rw [if_neg (fun z => h z.1)]
      have := pf_c2_le a a L k
      constructor
      · intro e; omega
      · intro e; exact absurd (e V (List.mem_cons_self ..)) h
theorem pf_At_nil {bl : Nat} {s g : Nat → Nat} {c : Nat} {r gn : Int32} {wk ow tr tk : Nat → Int32} (h : pf_At bl s g c [] r gn wk ow tr tk) : r = 0 := by
  rcases h with ⟨e, _⟩ | ⟨_, S, L', e, _⟩
  · exact e
  · cases e
theorem pf_At_cons {bl : Nat} {s g : Nat → Nat} {c : Nat} {V : List (Nat × Nat)} {L : List (List (Nat × Nat))} {r gn : Int32} {wk ow tr tk : Nat → Int32} (h : pf_At bl s g c (V :: L) r gn wk ow tr tk) :
    r = 1 ∧ ∃ S, V = pf_st S ∧ pf_Ok c S ∧ S ≠ [] ∧ gn = nI S.length ∧ pf_rep wk ow tr S ∧ pf_tk S tk ∧ pf_T bl s g c (pf_go bl s g c S) L := by
  rcases h with ⟨_, e⟩ | ⟨e, S, L', eL, h⟩
  · cases e
  · injection eL with e1 e2
    subst e2
    exact ⟨e, S, e1, h⟩
section
variable {ct gn rk lo : Int32} {bk wt st gl wy kp ko : Nat → Int32}
theorem yt_start {post : Int32 → SY → Prop} {wk ow tr tk : Nat → Int32} {bl c : Nat} {s g : Nat → Nat} (C : pf_YC bl c s g bk st gl)
    (h : ∀ r gn' wk' ow' tr' tk', pf_At bl s g c (pf_F bl s g c 0 []) r gn' wk' ow' tr' tk' → post r (nI c, gn', rk, lo, bk, wt, st, gl, wk', ow', tr', tk', wy, kp, ko)) :
    wpY_begin (fun u => wpY_nextFamily post u 1) (nI c, gn, rk, lo, bk, wt, st, gl, wk, ow, tr, tk, wy, kp, ko) := by
  obtain ⟨hc0, hc, hs, hg, hst, hgl, hb⟩ := C
  refine yt_begin hc0 hs hst hb (fun wk' ow' tr' tk' hr ht => ?_)
  exact yt_next1 hc0 hc hs hg hst hgl hb (pf_dfs bl s g c hc0 hs) (pf_Ok_begin hc0 hs) hr ht h
theorem yt_nx {post : Int32 → SY → Prop} {wk ow tr tk : Nat → Int32} {bl c : Nat} {s g : Nat → Nat} (C : pf_YC bl c s g bk st gl)
    {L : List (List (Nat × Nat))} {S : List (Nat × Nat × Nat)} (hT : pf_T bl s g c (pf_go bl s g c S) L) (hk : pf_Ok c S) (hS : S ≠ []) (hr : pf_rep wk ow tr S) (ht : pf_tk S tk)
    (h : ∀ r gn' wk' ow' tr' tk', pf_At bl s g c L r gn' wk' ow' tr' tk' → post r (nI c, gn', rk, lo, bk, wt, st, gl, wk', ow', tr', tk', wy, kp, ko)) : wpY_nextFamily post (nI c, nI S.length, rk, lo, bk, wt, st, gl, wk, ow, tr, tk, wy, kp, ko) 0 := by
  obtain ⟨hc0, hc, hs, hg, hst, hgl, hb⟩ := C
  exact yt_next0 hc0 hc hs hg hst hgl hb hT hk hS hr ht h
theorem yt_fam_l {post : Int32 → SY → Prop} {bl c : Nat} {s g : Nat → Nat} (C : pf_YC bl c s g bk st gl) :
    ∀ (L : List (List (Nat × Nat))) (k : Nat) (r gn : Int32) (wk ow tr tk : Nat → Int32), pf_At bl s g c L r gn wk ow tr tk →
      (∀ gn' wk' ow' tr' tk', post (nI (k + L.length)) (nI c, gn', rk, lo, bk, wt, st, gl, wk', ow', tr', tk', wy, kp, ko)) → wY_families_12 post (L.length + 1) (nI k) r (nI c) gn rk lo bk wt st gl wk ow tr tk wy kp ko := by
  intro L
  induction L with
  | nil =>
    intro k r gn wk ow tr tk hA h
    have e := pf_At_nil hA
    subst e
    exact br_t rfl (h gn wk ow tr tk)
  | cons V L ih =>
    intro k r gn wk ow tr tk hA h
    obtain ⟨e, S, eV, hk, hS, eg, hr, ht, hT⟩ := pf_At_cons hA
    subst e eg
    refine br_f (by decide) (nm_r (nI_1 k) (yt_nx C hT hk hS hr ht (fun r' gn' wk' ow' tr' tk' hA' => ih (k + 1) r' gn' wk' ow' tr' tk' hA' ?_)))
    rw [show k + 1 + L.length = k + (V :: L).length by simp; omega]
    exact h
theorem yt_families {post : Int32 → SY → Prop} {wk ow tr tk : Nat → Int32} {bl c : Nat} {s g : Nat → Nat} (C : pf_YC bl c s g bk st gl)
    (h : ∀ gn' wk' ow' tr' tk', post (nI (pf_F bl s g c 0 []).length) (nI c, gn', rk, lo, bk, wt, st, gl, wk', ow', tr', tk', wy, kp, ko)) : wpY_families post (nI c, gn, rk, lo, bk, wt, st, gl, wk, ow, tr, tk, wy, kp, ko) := by
  refine yt_start (gn := gn) C (fun r gn' wk' ow' tr' tk' hA => ⟨_, yt_fam_l C _ 0 r gn' wk' ow' tr' tk' hA ?_⟩)
  rw [Nat.zero_add]
  exact h
theorem yt_s21 {post : Int32 → SY → Prop} {J : Int32 → Int32 → Int32 → Int32 → Int32 → Int32 → (Nat → Int32) → (Nat → Int32) → (Nat → Int32) → (Nat → Int32) → (Nat → Int32) → (Nat → Int32) → (Nat → Int32) → (Nat → Int32) → (Nat → Int32) → (Nat → Int32) → (Nat → Int32) → Prop}
    {wk ow tr tk : Nat → Int32} {x1 : Int32} {n : Nat} (hn : n ≤ 30) : ∀ (R : List (Nat × Nat)) (k : Nat) (acc : Int32), pf_lay wk ow R k → k + R.length = n → (∀ p, p ∈ R → p.1 < 30) →
      wpY_nextFamily (fun r u => J (x1 + pf_fl wt acc (R.map (fun p => p.1))) r u.1 u.2.1 u.2.2.1 u.2.2.2.1 u.2.2.2.2.1 u.2.2.2.2.2.1 u.2.2.2.2.2.2.1 u.2.2.2.2.2.2.2.1 u.2.2.2.2.2.2.2.2.1 u.2.2.2.2.2.2.2.2.2.1 u.2.2.2.2.2.2.2.2.2.2.1 u.2.2.2.2.2.2.2.2.2.2.2.1 u.2.2.2.2.2.2.2.2.2.2.2.2.1 u.2.2.2.2.2.2.2.2.2.2.2.2.2.1 u.2.2.2.2.2.2.2.2.2.2.2.2.2.2) (ct, nI n, rk, lo, bk, wt, st, gl, wk, ow, tr, tk, wy, kp, ko) 0 →
      wY_sum_21 post J x1 ct (nI n) rk lo bk wt st gl wk ow tr tk wy kp ko (R.length + 1) acc (nI k) := by
  intro R
  induction R with
  | nil =>
    intro k acc _ hk _ h
    have hk' : k = n := hk
    subst hk'
    exact br_t (nI_le (Nat.le_refl _) (by omega)) (nm_e h)
  | cons p R ih =>
    intro k acc hl hk hp h
    obtain ⟨h1, h2, h3⟩ := hl
    rw [List.length_cons] at hk
    have hp0 := hp p (List.mem_cons_self ..)
    have ck : (nI k).toNatClampNeg = k := nI_clamp (by omega)
    have cw : wk (nI k).toNatClampNeg = nI p.1 := by rw [ck]; exact h1
    have cp : (nI p.1).toNatClampNeg = p.1 := nI_clamp (by omega)
    exact br_f (nI_ge (by omega) (by omega)) ⟨vp_in_nI (by omega) (by decide), by rw [cw]; exact vp_in_nI hp0 (by decide), nm_r (e' := acc * wt p.1) (by rw [cw, cp]) (nm_r (nI_1 k) (ih (k + 1) (acc * wt p.1) h3 (by omega) (fun q hq => hp q (List.mem_cons_of_mem _ hq)) h))⟩
theorem yt_sum_l {post : Int32 → SY → Prop} {bl c : Nat} {s g : Nat → Nat} (C : pf_YC bl c s g bk st gl) :
    ∀ (L : List (List (Nat × Nat))) (a : Int32) (r gn : Int32) (wk ow tr tk : Nat → Int32), pf_At bl s g c L r gn wk ow tr tk →
      (∀ gn' wk' ow' tr' tk', post (pf_sw wt L a) (nI c, gn', rk, lo, bk, wt, st, gl, wk', ow', tr', tk', wy, kp, ko)) → wY_sum_12 post (L.length + 1) a r (nI c) gn rk lo bk wt st gl wk ow tr tk wy kp ko := by
  intro L
  induction L with
  | nil =>
    intro a r gn wk ow tr tk hA h
    have e := pf_At_nil hA
    subst e
    exact br_t rfl (h gn wk ow tr tk)
  | cons V L ih =>
    intro a r gn wk ow tr tk hA h
    obtain ⟨e, S, eV, hk, hS, eg, hr, ht, hT⟩ := pf_At_cons hA
    subst e eg
    have hlen := pf_Ok_len hk
    have el : (pf_st S).reverse.length = S.length := by rw [List.length_reverse, pf_st, List.length_map]
    refine br_f (by decide) ⟨_, yt_s21 hlen (pf_st S).reverse 0 1 (pf_rep_lay S hr) (by rw [el, Nat.zero_add]) (fun p hp => (pf_st_mem hk p (List.mem_reverse.mp hp)).1) ?_⟩
    rw [← pf_weight hk wt]
    refine yt_nx C hT hk hS hr ht (fun r' gn' wk' ow' tr' tk' hA' => ih _ r' gn' wk' ow' tr' tk' hA' ?_)
    rw [pf_sw, eV] at h
    exact h
theorem yt_sum {post : Int32 → SY → Prop} {wk ow tr tk : Nat → Int32} {bl c : Nat} {s g : Nat → Nat} (C : pf_YC bl c s g bk st gl)
    (h : ∀ gn' wk' ow' tr' tk', post (pf_sw wt (pf_F bl s g c 0 []) 0) (nI c, gn', rk, lo, bk, wt, st, gl, wk', ow', tr', tk', wy, kp, ko)) : wpY_sum post (nI c, gn, rk, lo, bk, wt, st, gl, wk, ow, tr, tk, wy, kp, ko) :=
  yt_start (gn := gn) C (fun r gn' wk' ow' tr' tk' hA => ⟨_, yt_sum_l C _ 0 r gn' wk' ow' tr' tk' hA h⟩)
theorem yt_tb_l {post : Int32 → SY → Prop} {bl c a b : Nat} {s g : Nat → Nat} (C : pf_YC bl c s g bk st gl) (ha : a < 30) (hb : b < 30) :
    ∀ (L : List (List (Nat × Nat))) (k : Nat) (r gn : Int32) (wk ow tr tk : Nat → Int32), pf_At bl s g c L r gn wk ow tr tk →
      (∀ gn' wk' ow' tr' tk', post (nI (pf_c2 a b L k)) (nI c, gn', rk, lo, bk, wt, st, gl, wk', ow', tr', tk', wy, kp, ko)) → wY_throughBoth_31 post (nI a) (nI b) (L.length + 1) (nI k) r (nI c) gn rk lo bk wt st gl wk ow tr tk wy kp ko := by
  have ca : (nI a).toNatClampNeg = a := nI_clamp (by omega)
  have cb : (nI b).toNatClampNeg = b := nI_clamp (by omega)
  have va : vp_in (nI a) 30 := vp_in_nI ha (by decide)
  have vb : vp_in (nI b) 30 := vp_in_nI hb (by decide)
  intro L
  induction L with
  | nil =>
    intro k r gn wk ow tr tk hA h
    have e := pf_At_nil hA
    subst e
    exact br_t rfl (h gn wk ow tr tk)
  | cons V L ih =>
    intro k r gn wk ow tr tk hA h
    obtain ⟨e, S, eV, hk, hS, eg, hr, ht, hT⟩ := pf_At_cons hA
    subst e eg
    have ea : tk (nI a).toNatClampNeg = 0 ↔ ¬ (pf_ms (pf_st S)).testBit a = true := by rw [ca]; exact yt_tbit ht ha
    have eb : tk (nI b).toNatClampNeg = 0 ↔ ¬ (pf_ms (pf_st S)).testBit b = true := by rw [cb]; exact yt_tbit ht hb
    rw [pf_c2, eV] at h
    have go : ∀ k' : Nat, (∀ gn' wk' ow' tr' tk', post (nI (pf_c2 a b L k')) (nI c, gn', rk, lo, bk, wt, st, gl, wk', ow', tr', tk', wy, kp, ko)) → wY_throughBoth_57 post (wY_throughBoth_31 post (nI a) (nI b) (L.length + 1)) (nI a) (nI b) (nI k') (nI c) (nI S.length) rk lo bk wt st gl wk ow tr tk wy kp ko :=
      fun k' h' => yt_nx C hT hk hS hr ht (fun r' gn' wk' ow' tr' tk' hA' => ih k' r' gn' wk' ow' tr' tk' hA' h')
    by_cases h1 : (pf_ms (pf_st S)).testBit a = true
    · by_cases h2 : (pf_ms (pf_st S)).testBit b = true
      · rw [if_pos ⟨h1, h2⟩] at h
        exact br_f (by decide) ⟨va, br_f (fun z => ea.mp z h1) ⟨vb, br_f (fun z => eb.mp z h2) (nm_r (nI_1 k) (go (k + 1) h))⟩⟩
      · rw [if_neg (fun z => h2 z.2)] at h
        exact br_f (by decide) ⟨va, br_f (fun z => ea.mp z h1) ⟨vb, br_t (eb.mpr h2) (go k h)⟩⟩
    · rw [if_neg (fun z => h1 z.1)] at h
      exact br_f (by decide) ⟨va, br_t (ea.mpr h1) (go k h)⟩
theorem yt_noCell_f {post : Int32 → Prop} {wk ow tr tk : Nat → Int32} {x : Nat} (hx : x < 30) (h : post 0) : wpY_noCell post (ct, gn, rk, lo, bk, wt, st, gl, wk, ow, tr, tk, wy, kp, ko) (nI x) :=
  br_f (nI_pos (by omega)) (br_t (nI_le (b := 29) (by omega) (by decide)) h)
theorem yt_29 {p : Int32} (h : 30 ≤ p) : ¬ p ≤ 29 := by
  intro z
  exact absurd (Int32.le_trans h z) (by decide)
theorem yt_noCell_t {post : Int32 → Prop} {wk ow tr tk : Nat → Int32} {p : Int32} (hp : p < 0 ∨ 30 ≤ p) (h : post 1) : wpY_noCell post (ct, gn, rk, lo, bk, wt, st, gl, wk, ow, tr, tk, wy, kp, ko) p :=
  br_c (fun _ => h) (fun hn => br_f (yt_29 (hp.resolve_left hn)) h)
theorem yt_throughBoth {post : Int32 → SY → Prop} {wk ow tr tk : Nat → Int32} {bl c a b : Nat} {s g : Nat → Nat} (C : pf_YC bl c s g bk st gl) (ha : a < 30) (hb : b < 30)
    (h : ∀ gn' wk' ow' tr' tk', post (nI (pf_c2 a b (pf_F bl s g c 0 []) 0)) (nI c, gn', rk, lo, bk, wt, st, gl, wk', ow', tr', tk', wy, kp, ko)) : wpY_throughBoth post (nI c, gn, rk, lo, bk, wt, st, gl, wk, ow, tr, tk, wy, kp, ko) (nI a) (nI b) := by
  unfold wpY_throughBoth
  dsimp only
  refine yt_noCell_f ha ?_
  refine br_t rfl ?_
  refine yt_noCell_f hb ?_
  refine br_t rfl ?_
  exact yt_start (gn := gn) C (fun r gn' wk' ow' tr' tk' hA => ⟨_, yt_tb_l C ha hb _ 0 r gn' wk' ow' tr' tk' hA h⟩)
theorem yt_musts_l {post : Int32 → SY → Prop} {bl c n : Nat} {s g : Nat → Nat} (C : pf_YC bl c s g bk st gl) (hn0 : 0 < n) (hn : n ≤ 490) (eN : (pf_F bl s g c 0 []).length = n)
    (h : ∀ gn' wk' ow' tr' tk', post (nI (pf_ct (fun x => decide (pf_c2 x x (pf_F bl s g c 0 []) 0 = n)) 30)) (nI c, gn', rk, lo, bk, wt, st, gl, wk', ow', tr', tk', wy, kp, ko)) :
    ∀ (e x : Nat) (gn : Int32) (wk ow tr tk : Nat → Int32), x + e = 30 → wY_musts_9 post (nI n) (e + 1) (nI (pf_ct (fun x => decide (pf_c2 x x (pf_F bl s g c 0 []) 0 = n)) x)) (nI x) (nI c) gn rk lo bk wt st gl wk ow tr tk wy kp ko := by
  intro e
  induction e with
  | zero =>
    intro x gn wk ow tr tk hx
    have ex : x = 30 := by omega
    subst ex
    exact br_t xt_30 (h gn wk ow tr tk)
  | succ e ih =>
    intro x gn wk ow tr tk hx
    have hle := pf_c2_le x x (pf_F bl s g c 0 []) 0
    refine br_f (xt_in30 (by omega)) (br_f (nI_nle hn0 (by omega)) (yt_throughBoth C (by omega) (by omega) (fun gn' wk' ow' tr' tk' => ?_)))
    refine pk_eq (pf_c2 x x (pf_F bl s g c 0 []) 0) n (fun e1 => ?_) (fun e1 => ?_) rfl rfl (by omega) (by omega)
    · have := ih (x + 1) gn' wk' ow' tr' tk' (by omega)
      rw [pf_ct, if_pos (decide_eq_true e1)] at this
      exact nm_r (nI_1 _) (nm_r (nI_1 x) this)
    · have := ih (x + 1) gn' wk' ow' tr' tk' (by omega)
      rw [pf_ct, if_neg (fun z => e1 (of_decide_eq_true z)), Nat.add_zero] at this
      exact nm_r (nI_1 x) this
theorem yt_musts {post : Int32 → SY → Prop} {wk ow tr tk : Nat → Int32} {bl c : Nat} {s g : Nat → Nat} (C : pf_YC bl c s g bk st gl) (hn : (pf_F bl s g c 0 []).length ≤ 490)
    (h : ∀ gn' wk' ow' tr' tk', post (if (pf_F bl s g c 0 []).length = 0 then 0 else nI (pf_ct (fun x => decide (pf_c2 x x (pf_F bl s g c 0 []) 0 = (pf_F bl s g c 0 []).length)) 30)) (nI c, gn', rk, lo, bk, wt, st, gl, wk', ow', tr', tk', wy, kp, ko)) : wpY_musts post (nI c, gn, rk, lo, bk, wt, st, gl, wk, ow, tr, tk, wy, kp, ko) := by
  refine yt_families (gn := gn) C (fun gn' wk' ow' tr' tk' => ?_)
  by_cases h0 : (pf_F bl s g c 0 []).length = 0
  · rw [if_pos h0] at h
    refine ⟨1, ?_⟩
    rw [h0]
    exact br_f (by decide) (br_t (by decide) (h gn' wk' ow' tr' tk'))
  · rw [if_neg h0] at h
    exact ⟨31, yt_musts_l C (by omega) hn rfl h 30 0 gn' wk' ow' tr' tk' rfl⟩
theorem yt_62 {post : Int32 → SY → Prop} {wk ow tr tk : Nat → Int32} {n : Nat} (hn : n ≤ 30) (h : ∀ kp' ko', (∀ j, j < n → kp' j = wk j ∧ ko' j = ow j) → post 0 (ct, nI n, rk, lo, bk, wt, st, gl, wk, ow, tr, tk, wy, kp', ko')) : ∃ m, wY_load_62 post ct (nI n) rk lo m 0 bk wt st gl wk ow tr tk wy kp ko := by
  refine loop_0 (fun m i (q : (Nat → Int32) × (Nat → Int32)) => wY_load_62 post ct (nI n) rk lo m (nI i) bk wt st gl wk ow tr tk wy q.1 q.2) (fun i q => ∀ j, j < i → q.1 j = wk j ∧ q.2 j = ow j) n (kp, ko) (fun j hj => absurd hj (Nat.not_lt_zero _)) ?_ ?_
  · intro m q hq
    exact br_t (nI_le (Nat.le_refl _) (by omega)) (h q.1 q.2 hq)
  · intro m i q hi hq hm
    have ci : (nI i).toNatClampNeg = i := nI_clamp (by omega)
    have vi : vp_in (nI i) 40 := vp_in_nI (by omega) (by decide)
    refine br_f (nI_ge hi (by omega)) ⟨vi, vi, nm_r (e' := upd q.1 i (wk i)) (by rw [ci]) ⟨vi, vi, nm_r (e' := upd q.2 i (ow i)) (by rw [ci]) (nm_r (nI_1 i) (hm (upd q.1 i (wk i), upd q.2 i (ow i)) ?_))⟩⟩
    intro j hj
    by_cases e : j = i
    · subst e; exact ⟨pk_us, pk_us⟩
    · have := hq j (by omega)
      exact ⟨(pk_un e).trans this.1, (pk_un e).trans this.2⟩
theorem yt_load_l {post : Int32 → SY → Prop} {bl c N : Nat} {s g : Nat → Nat} (C : pf_YC bl c s g bk st gl) (hN : N < 2 ^ 31) :
    ∀ (L : List (List (Nat × Nat))) (k : Nat) (r gn : Int32) (wk ow tr tk : Nat → Int32), k ≤ N → pf_At bl s g c L r gn wk ow tr tk →
      (L[N - k]? = none → ∀ gn' wk' ow' tr' tk', post (-4) (nI c, gn', rk, lo, bk, wt, st, gl, wk', ow', tr', tk', wy, kp, ko)) →
      (∀ S, L[N - k]? = some (pf_st S) → pf_Ok c S → S ≠ [] → ∀ gn' wk' ow' tr' tk' kp' ko', pf_lay kp' ko' (pf_st S).reverse 0 → post 0 (nI c, gn', nI N, nI S.length, bk, wt, st, gl, wk', ow', tr', tk', wy, kp', ko')) →
      wY_load_19 post (nI N) (L.length + 1) r (nI k) (nI c) gn rk lo bk wt st gl wk ow tr tk wy kp ko := by
  intro L
  induction L with
  | nil =>
    intro k r gn wk ow tr tk hkN hA h1 h2
    have e := pf_At_nil hA
    subst e
    have := h1 (by simp) gn wk ow tr tk
    exact br_c (fun _ => br_t rfl this) (fun _ => br_t rfl (br_t rfl this))
  | cons V L ih =>
    intro k r gn wk ow tr tk hkN hA h1 h2
    obtain ⟨e, S, eV, hk, hS, eg, hr, ht, hT⟩ := pf_At_cons hA
    subst e eg
    refine pk_le N k (fun hNk => ?_) (fun hNk => ?_) rfl rfl (by omega) (by omega)
    · have ek : N - k = 0 := by omega
      rw [ek] at h2
      have hlen := pf_Ok_len hk
      refine br_f (by decide) (yt_62 hlen (fun kp' ko' hcp => h2 S (by rw [eV]; rfl) hk hS _ wk ow tr tk kp' ko' ?_))
      refine pf_lay_fr wk ow kp' ko' _ 0 (fun j hj => hcp j ?_) (pf_rep_lay S hr)
      rw [List.length_reverse, pf_st, List.length_map] at hj
      omega
    · refine br_f (by decide) (yt_nx C hT hk hS hr ht (fun r' gn' wk' ow' tr' tk' hA' => nm_r (nI_1 k) (ih (k + 1) r' gn' wk' ow' tr' tk' (by omega) hA' ?_ ?_)))
      · rw [show N - k = (N - (k + 1)) + 1 by omega, List.getElem?_cons_succ] at h1
        exact h1
      · rw [show N - k = (N - (k + 1)) + 1 by omega, List.getElem?_cons_succ] at h2
        exact h2
theorem yt_load {post : Int32 → SY → Prop} {wk ow tr tk : Nat → Int32} {bl c N : Nat} {s g : Nat → Nat} (C : pf_YC bl c s g bk st gl) (hN : N < 2 ^ 31)
    (h1 : (pf_F bl s g c 0 [])[N]? = none → ∀ gn' wk' ow' tr' tk', post (-4) (nI c, gn', rk, lo, bk, wt, st, gl, wk', ow', tr', tk', wy, kp, ko))
    (h2 : ∀ S, (pf_F bl s g c 0 [])[N]? = some (pf_st S) → pf_Ok c S → S ≠ [] → ∀ gn' wk' ow' tr' tk' kp' ko', pf_lay kp' ko' (pf_st S).reverse 0 → post 0 (nI c, gn', nI N, nI S.length, bk, wt, st, gl, wk', ow', tr', tk', wy, kp', ko')) :
    wpY_load post (nI c, gn, rk, lo, bk, wt, st, gl, wk, ow, tr, tk, wy, kp, ko) (nI N) :=
  br_t (nI_pos' hN) (yt_start (gn := gn) C (fun r gn' wk' ow' tr' tk' hA => ⟨_, yt_load_l C hN _ 0 r gn' wk' ow' tr' tk' (Nat.zero_le _) hA h1 h2⟩))
/-! Y's cell and weight of the loaded walk -/
theorem yt_cell_l {post : Int32 → Prop} {wk ow tr tk : Nat → Int32} {p0 p1 : Int32} {n : Nat} (hn : n ≤ 30) : ∀ (R : List (Nat × Nat)) (k d : Nat), pf_lay kp ko R k → k + R.length = n →
    post (pf_sel p1 ((R.filter (fun p => decide (nI p.2 = p0))).map (fun p => p.1)) d) → wY_cell_5 post p0 p1 ct gn rk (nI n) bk wt st gl wk ow tr tk wy kp ko (R.length + 1) (nI d) (nI k) := by
  intro R
  induction R with
  | nil =>
    intro k d _ hk h
    have hk' : k = n := hk
    subst hk'
    exact br_t (nI_le (Nat.le_refl _) (by omega)) h
  | cons p R ih =>
    intro k d hl hk h
    obtain ⟨h1, h2, h3⟩ := hl
    rw [List.length_cons] at hk
    have ck : (nI k).toNatClampNeg = k := nI_clamp (by omega)
    have co : ko (nI k).toNatClampNeg = nI p.2 := by rw [ck]; exact h2
    have vk : vp_in (nI k) 40 := vp_in_nI (by omega) (by decide)
    rw [List.filter_cons] at h
    by_cases hp : nI p.2 = p0
    · rw [if_pos (decide_eq_true hp), List.map_cons, pf_sel] at h
      by_cases hd : nI d = p1
      · rw [if_pos hd] at h
        exact br_f (nI_ge (by omega) (by omega)) ⟨vk, br_t (by rw [co]; exact hp) (br_t hd ⟨vk, by rw [ck, h1]; exact h⟩)⟩
      · rw [if_neg hd] at h
        exact br_f (nI_ge (by omega) (by omega)) ⟨vk, br_t (by rw [co]; exact hp) (br_f hd (nm_r (nI_1 d) (nm_r (nI_1 k) (ih (k + 1) (d + 1) h3 (by omega) h))))⟩
    · rw [if_neg (fun z => hp (of_decide_eq_true z))] at h
      exact br_f (nI_ge (by omega) (by omega)) ⟨vk, br_f (by rw [co]; exact hp) (nm_r (nI_1 k) (ih (k + 1) d h3 (by omega) h))⟩
theorem yt_lw_l {post : Int32 → Prop} {wk ow tr tk : Nat → Int32} {n : Nat} (hn : n ≤ 30) : ∀ (R : List (Nat × Nat)) (k : Nat) (acc : Int32), pf_lay kp ko R k → k + R.length = n → (∀ p, p ∈ R → p.1 < 30) →
    post (pf_fl wt acc (R.map (fun p => p.1))) → wY_loadedWeight_13 post ct gn rk (nI n) bk wt st gl wk ow tr tk wy kp ko (R.length + 1) acc (nI k) := by
  intro R
  induction R with
  | nil =>
    intro k acc _ hk _ h
    have hk' : k = n := hk
    subst hk'
    exact br_t (nI_le (Nat.le_refl _) (by omega)) h
  | cons p R ih =>
    intro k acc hl hk hp h
    obtain ⟨h1, h2, h3⟩ := hl
    rw [List.length_cons] at hk
    have hp0 := hp p (List.mem_cons_self ..)
    have ck : (nI k).toNatClampNeg = k := nI_clamp (by omega)
    have cw : kp (nI k).toNatClampNeg = nI p.1 := by rw [ck]; exact h1
    have cp : (nI p.1).toNatClampNeg = p.1 := nI_clamp (by omega)
    exact br_f (nI_ge (by omega) (by omega)) ⟨vp_in_nI (by omega) (by decide), by rw [cw]; exact vp_in_nI hp0 (by decide), nm_r (e' := acc * wt p.1) (by rw [cw, cp]) (nm_r (nI_1 k) (ih (k + 1) (acc * wt p.1) h3 (by omega) (fun q hq => hp q (List.mem_cons_of_mem _ hq)) h))⟩
end
