/-! X's answers over the list of families -/
def pf_XF (L : List (List (Nat × Nat))) (fp fc : Nat → Int32) : Prop := ∀ (f : Nat) (V : List (Nat × Nat)), L[f]? = some V → (∀ j, j < 4 → fp (4 * f + j) = nI (pf_mk j V)) ∧ fc f = nI (pf_ms V)
theorem pf_Fam_XF {L : List (List (Nat × Nat))} {fp fc : Nat → Int32} (h : pf_Fam (L.map (pf_mks 4)) fp fc) (hL : ∀ V, V ∈ L → ∀ p, p ∈ V → p.2 < 4) : pf_XF L fp fc := by
  intro f V hV
  have e : (L.map (pf_mks 4))[f]? = some [pf_mk 3 V, pf_mk 2 V, pf_mk 1 V, pf_mk 0 V] := by
    rw [List.getElem?_map, hV]; rfl
  obtain ⟨h0, h1, h2, h3, h4⟩ := h f _ _ _ _ e
  refine ⟨?_, by rw [h4, pf_mk4 V (hL V (List.mem_of_getElem? hV))]⟩
  intro j hj
  have : j = 0 ∨ j = 1 ∨ j = 2 ∨ j = 3 := by omega
  rcases this with e | e | e | e
  · subst e; exact h0
  · subst e; exact h1
  · subst e; exact h2
  · subst e; exact h3
theorem pf_dropL {Q : List (List (Nat × Nat))} {k : Nat} {d : List (Nat × Nat)} {R : List (List (Nat × Nat))} (h : Q.drop k = d :: R) : k < Q.length ∧ Q[k]? = some d ∧ Q.drop (k + 1) = R ∧ d ∈ Q := by
  have hk : k < Q.length := by
    apply Nat.lt_of_not_le
    intro hle
    rw [List.drop_eq_nil_of_le hle] at h
    cases h
  rw [List.drop_eq_getElem_cons hk] at h
  injection h with h1 h2
  refine ⟨hk, ?_, h2, ?_⟩
  · rw [List.getElem?_eq_getElem hk, h1]
  · rw [← h1]; exact List.getElem_mem hk
def pf_al : List (List (Nat × Nat)) → Nat → Nat
  | [], m => m
  | V :: R, m => pf_al R (m &&& pf_ms V)
theorem pf_al_bit (x : Nat) : ∀ (R : List (List (Nat × Nat))) (m : Nat), (pf_al R m).testBit x = true ↔ m.testBit x = true ∧ ∀ V, V ∈ R → (pf_ms V).testBit x = true := by
  intro R
  induction R with
  | nil => intro m; exact ⟨fun h => ⟨h, fun V hV => absurd hV (by simp)⟩, fun h => h.1⟩
  | cons V R ih =>
    intro m
    rw [pf_al, ih, Nat.testBit_and, Bool.and_eq_true]
    constructor
    · intro h
      refine ⟨h.1.1, fun V' hV' => ?_⟩
      rcases List.mem_cons.mp hV' with e | e
      · rw [e]; exact h.1.2
      · exact h.2 V' e
    · intro h
      exact ⟨⟨h.1, h.2 V (List.mem_cons_self ..)⟩, fun V' hV' => h.2 V' (List.mem_cons_of_mem _ hV')⟩
theorem pf_al_lt : ∀ (R : List (List (Nat × Nat))) (m : Nat), m < 2 ^ 30 → pf_al R m < 2 ^ 30 := by
  intro R
  induction R with
  | nil => intro m h; exact h
  | cons V R ih => intro m h; exact ih _ (Nat.lt_of_le_of_lt Nat.and_le_left h)
theorem pf_al_musts (V : List (Nat × Nat)) (R : List (List (Nat × Nat))) : pf_pb (pf_al R (pf_ms V)) 30 = pf_ct (fun x => decide (pf_c2 x x (V :: R) 0 = (V :: R).length)) 30 := by
  rw [pf_pb_ct]
  apply pf_ct_congr
  intro x _
  rw [Bool.eq_iff_iff, pf_al_bit, decide_eq_true_iff]
  have h := pf_c2_all x (V :: R) 0
  rw [Nat.zero_add] at h
  rw [h]
  constructor
  · intro e V' hV'
    rcases List.mem_cons.mp hV' with e1 | e1
    · rw [e1]; exact e.1
    · exact e.2 V' e1
  · intro e
    exact ⟨e V (List.mem_cons_self ..), fun V' hV' => e V' (List.mem_cons_of_mem _ hV')⟩
section
variable {bc ec fn ld : Int32} {wt sr gr pl pn fp fc : Nat → Int32}
theorem xt_sum_l {post : Int32 → Prop} {L : List (List (Nat × Nat))} (hL : L.length ≤ 490) (hX : pf_XF L fp fc) (hm : ∀ V, V ∈ L → pf_ms V < 2 ^ 30) :
    ∀ (R : List (List (Nat × Nat))) (k : Nat) (a : Int32), L.drop k = R → k ≤ L.length → post (pf_sw wt R a) → wX_sum_4 post bc ec (nI L.length) ld wt sr gr pl pn fp fc (R.length + 1) a (nI k) := by
  intro R
  induction R with
  | nil =>
    intro k a hR hk h
    have := List.drop_eq_nil_iff.mp hR
    exact br_t (nI_le (by omega) (by omega)) h
  | cons V R ih =>
    intro k a hR hk h
    obtain ⟨h1, h2, h3, h4⟩ := pf_dropL hR
    have ck : (nI k).toNatClampNeg = k := nI_clamp (by omega)
    have ef : fc (nI k).toNatClampNeg = nI (pf_ms V) := by rw [ck]; exact (hX k V h2).2
    have hV := hm V h4
    refine br_f (nI_ge h1 (by omega)) ⟨vp_in_nI (by omega) (by decide), ?_⟩
    rw [ef]
    exact xt_weightOf (by omega) (nm_e (nm_r (nI_1 k) (ih (k + 1) _ h3 h1 h)))
theorem xt_cfw_l {post : Int32 → Prop} {L : List (List (Nat × Nat))} {m a b : Nat} (hm31 : m < 2 ^ 31) (hmask : ∀ q : Nat, q &&& m = m ↔ (q.testBit a = true ∧ q.testBit b = true)) (hL : L.length ≤ 490) (hX : pf_XF L fp fc) (hm : ∀ V, V ∈ L → pf_ms V < 2 ^ 30) :
    ∀ (R : List (List (Nat × Nat))) (k q : Nat), L.drop k = R → k ≤ L.length → post (nI (pf_c2 a b R q)) → wX_countFamiliesWith_4 post (nI m) bc ec (nI L.length) ld wt sr gr pl pn fp fc (R.length + 1) (nI q) (nI k) := by
  intro R
  induction R with
  | nil =>
    intro k q hR hk h
    have := List.drop_eq_nil_iff.mp hR
    exact br_t (nI_le (by omega) (by omega)) h
  | cons V R ih =>
    intro k q hR hk h
    obtain ⟨h1, h2, h3, h4⟩ := pf_dropL hR
    have ck : (nI k).toNatClampNeg = k := nI_clamp (by omega)
    have ef : fc (nI k).toNatClampNeg = nI (pf_ms V) := by rw [ck]; exact (hX k V h2).2
    have hV := hm V h4
    have hle : pf_ms V &&& m ≤ m := Nat.and_le_right
    refine br_f (nI_ge h1 (by omega)) ⟨vp_in_nI (by omega) (by decide), ?_⟩
    rw [ef, nx_and]
    rw [pf_c2] at h
    refine pk_eq (pf_ms V &&& m) m (fun e => ?_) (fun e => ?_) rfl rfl (by omega) (by omega)
    · rw [if_pos ((hmask _).mp e)] at h
      exact nm_r (nI_1 q) (nm_r (nI_1 k) (ih (k + 1) (q + 1) h3 h1 h))
    · rw [if_neg (fun z => e ((hmask _).mpr z))] at h
      exact nm_r (nI_1 k) (ih (k + 1) q h3 h1 h)
theorem xt_musts_l {post : Int32 → Prop} {L : List (List (Nat × Nat))} (hL : L.length ≤ 490) (hX : pf_XF L fp fc) :
    ∀ (R : List (List (Nat × Nat))) (k m : Nat), m < 2 ^ 30 → L.drop k = R → k ≤ L.length → post (nI (pf_pb (pf_al R m) 30)) → wX_musts_18 post bc ec (nI L.length) ld wt sr gr pl pn fp fc (R.length + 1) (nI m) (nI k) := by
  intro R
  induction R with
  | nil =>
    intro k m hm hR hk h
    have := List.drop_eq_nil_iff.mp hR
    exact br_t (nI_le (by omega) (by omega)) (xt_countBits (by omega) h)
  | cons V R ih =>
    intro k m hm hR hk h
    obtain ⟨h1, h2, h3, h4⟩ := pf_dropL hR
    have ck : (nI k).toNatClampNeg = k := nI_clamp (by omega)
    have ef : fc (nI k).toNatClampNeg = nI (pf_ms V) := by rw [ck]; exact (hX k V h2).2
    have hle : m &&& pf_ms V ≤ m := Nat.and_le_left
    exact br_f (nI_ge h1 (by omega)) ⟨vp_in_nI (by omega) (by decide), nm_r (e' := nI (m &&& pf_ms V)) (by rw [ef, nx_and]) (nm_r (nI_1 k) (ih (k + 1) _ (by omega) h3 h1 h))⟩
theorem xt_paths_l {post : Int32 → Prop} {bl i s d : Nat} (hbl : bl < 2 ^ 30) (hi : i < 4) (hsd : s + d < 5) (hsr : sr i = nI s) (h : post (nI (pf_cnt bl s (5 + d) d))) :
    ∀ (e q : Nat), q + e = 2 ^ (5 + d) → wX_paths_44 post (nI i) (nI d) (nI (2 ^ (5 + d))) (nI bl) ec fn ld wt sr gr pl pn fp fc (e + 1) (nI (pf_ct (pf_fq bl s (5 + d) d) q)) (nI q) := by
  have hN : 2 ^ (5 + d) < 2 ^ 31 := Nat.pow_lt_pow_right (by decide) (by omega)
  have ci : (nI i).toNatClampNeg = i := nI_clamp (by omega)
  have es : sr (nI i).toNatClampNeg = nI s := by rw [ci]; exact hsr
  intro e
  induction e with
  | zero =>
    intro q hq
    have eq : q = 2 ^ (5 + d) := by omega
    rw [eq]
    exact br_t (nI_le (Nat.le_refl _) hN) h
  | succ e ih =>
    intro q hq
    have hqN : q < 2 ^ (5 + d) := by omega
    refine br_f (nI_ge hqN hN) ⟨vp_in_nI hi (by decide), ?_⟩
    rw [es]
    refine xt_freePath hsd hbl hqN ?_
    have hlt := pf_fp_lt (bl := bl) (s := s) (d := d) (q := q) hsd hqN
    have hi1 := ih (q + 1) (by omega)
    have hpc := pf_pb30 (n := 5 + d) (by omega) hqN
    rw [pf_ct] at hi1
    by_cases e1 : pf_pb q 30 = d ∧ pf_C s (5 + d) q &&& bl = 0
    · have hf : pf_fp bl s d q = pf_C s (5 + d) q := by rw [pf_fp, if_pos e1.1, if_pos e1.2]
      have hq1 : pf_fq bl s (5 + d) d q = true := by
        rw [pf_fq, ← hpc, e1.1, e1.2]; simp
      rw [if_pos hq1] at hi1
      have h0 := pf_C_0 s (5 + d) q
      rw [← hf] at h0
      exact br_f (nI_ne0 (by omega) (by omega)) (nm_r (nI_1 _) (nm_r (nI_1 q) hi1))
    · have hf : pf_fp bl s d q = 0 := by
        rw [pf_fp]
        by_cases e2 : pf_pb q 30 = d
        · rw [if_pos e2, if_neg (fun z => e1 ⟨e2, z⟩)]
        · rw [if_neg e2]
      have hq1 : ¬ pf_fq bl s (5 + d) d q = true := by
        intro z
        rw [pf_fq, Bool.and_eq_true, beq_iff_eq, beq_iff_eq, ← hpc] at z
        exact e1 z
      rw [if_neg hq1, Nat.add_zero] at hi1
      exact br_t (by rw [hf]; rfl) (nm_r (nI_1 q) hi1)
theorem pf_asc5 : ∀ A, A < 32 → (pf_mem A).Pairwise (fun a b => a < b) := by decide +kernel
theorem pf_mem30 : ∀ A, A < 32 → ∀ x, x ∈ pf_mem A → x < 30 := by decide +kernel
theorem xt_memA {post : Int32 → Prop} {A i : Nat} (hA : A < 32) (hi : i < pf_cn A) (hc : pf_cn A ≤ 4) (h : post (nI (pf_m A i))) : wpX_member post (nI A) (nI i) := by
  have e := pf_mkA A hA
  have e2 := pf_sel_at (pf_mem A) 0 i hi (by omega)
  rw [Nat.zero_add] at e2
  have := xt_member (post := post) (k := nI i) (pf_mem A) (pf_asc5 A hA) (pf_mem30 A hA) (by rw [e2]; exact h)
  rw [e] at this
  exact this
end
section
variable {bc ec fn ld : Int32} {wt pl pn fp fc : Nat → Int32}
theorem xt_ends_l {post : Int32 → SX → Prop} {A B c : Nat} (hA : A < 32) (hB : B < 32) (ecA : pf_cn A = c) (ecB : pf_cn B = c) (hc : c ≤ 4)
    (h : ∀ sr gr : Nat → Int32, (∀ i, i < c → sr i = nI (pf_m A i)) → (∀ i, i < c → gr i = nI (pf_m B i)) → wpX_listAnew (fun u => post (nI c) u) (bc, ec, fn, ld, wt, sr, gr, pl, pn, fp, fc)) :
    ∀ (e i : Nat) (sr gr : Nat → Int32), i + e = c → (∀ k, k < i → sr k = nI (pf_m A k)) → (∀ k, k < i → gr k = nI (pf_m B k)) → wX_ends_44 post (nI A) (nI B) (nI c) bc ec fn ld (e + 1) (nI i) wt sr gr pl pn fp fc := by
  intro e
  induction e with
  | zero =>
    intro i sr gr hi hs hg
    have ei : i = c := by omega
    subst ei
    exact br_t (nI_le (Nat.le_refl _) (by omega)) (h sr gr hs hg)
  | succ e ih =>
    intro i sr gr hi hs hg
    have ci : (nI i).toNatClampNeg = i := nI_clamp (by omega)
    have vi : vp_in (nI i) 4 := vp_in_nI (by omega) (by decide)
    refine br_f (nI_ge (by omega) (by omega)) (xt_memA hA (by omega) (by omega) ⟨vi, nm_r (e' := upd sr i (nI (pf_m A i))) (by rw [ci]) (xt_memA hB (by omega) (by omega) ⟨vi, nm_r (e' := upd gr i (nI (pf_m B i))) (by rw [ci]) (nm_r (nI_1 i) (ih (i + 1) _ _ (by omega) ?_ ?_))⟩)⟩)
    · intro k hk
      by_cases ek : k = i
      · subst ek; exact pk_us
      · rw [pk_un ek]; exact hs k (by omega)
    · intro k hk
      by_cases ek : k = i
      · subst ek; exact pk_us
      · rw [pk_un ek]; exact hg k (by omega)
end
