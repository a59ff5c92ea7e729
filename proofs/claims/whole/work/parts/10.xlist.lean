/-! X lists paths and families -/
def pf_PA (Q : List Nat) (i : Nat) (pl pn : Nat → Int32) : Prop := pn i = nI Q.length ∧ Q.length ≤ 126 ∧ ∀ k, k < Q.length → pl (126 * i + k) = nI (Q.getD k 0)
theorem pf_PA_s {Q : List Nat} {i : Nat} {pl pn : Nat → Int32} (h : pf_PA Q i pl pn) (hl : Q.length < 126) (m : Nat) : pf_PA (Q ++ [m]) i (upd pl (126 * i + Q.length) (nI m)) (upd pn i (nI (Q.length + 1))) := by
  refine ⟨?_, ?_, ?_⟩
  · rw [pk_us, List.length_append]; rfl
  · rw [List.length_append]; show Q.length + 1 ≤ 126; omega
  · intro k hk
    rw [List.length_append] at hk
    have hk' : k < Q.length + 1 := hk
    by_cases e : k = Q.length
    · subst e
      rw [pk_us, List.getD_eq_getElem?_getD, List.getElem?_append_right (Nat.le_refl _), Nat.sub_self]
      rfl
    · rw [pk_un (by omega), h.2.2 k (by omega), List.getD_eq_getElem?_getD, List.getD_eq_getElem?_getD, List.getElem?_append_left (by omega)]
theorem pf_PA_fr {Q : List Nat} {i j : Nat} {pl pn : Nat → Int32} (h : pf_PA Q j pl pn) (hij : j ≠ i) (k : Nat) (hk : k < 126) (x y : Int32) : pf_PA Q j (upd pl (126 * i + k) x) (upd pn i y) := by
  obtain ⟨h1, h2, h3⟩ := h
  refine ⟨by rw [pk_un hij]; exact h1, h2, fun k' hk' => ?_⟩
  rw [pk_un (by omega)]
  exact h3 k' hk'
theorem pf_PA_fr2 {Q : List Nat} {i j : Nat} {pl pn : Nat → Int32} (h : pf_PA Q j pl pn) (hij : j ≠ i) (y : Int32) : pf_PA Q j pl (upd pn i y) := by
  obtain ⟨h1, h2, h3⟩ := h
  exact ⟨by rw [pk_un hij]; exact h1, h2, h3⟩
theorem pf_fp_lt {bl s d q : Nat} (hs : s + d < 5) (hq : q < 2 ^ (5 + d)) : pf_fp bl s d q < 2 ^ 30 := by
  rw [pf_fp]
  have hpc := pf_pb30 (n := 5 + d) (by omega) hq
  have hle := pf_pc_le (5 + d) q
  by_cases e : pf_pb q 30 = d
  · rw [if_pos e]
    have hA : pf_A s (5 + d) q < 30 := by rw [pf_A_eq, ← hpc, e]; omega
    by_cases h : pf_C s (5 + d) q &&& bl = 0
    · rw [if_pos h]; exact pf_C_lt s (5 + d) q hA
    · rw [if_neg h]; decide
  · rw [if_neg e]; decide
theorem pf_Q_lt {bl : Nat} {s g : Nat → Nat} {c : Nat} (hs : ∀ i, i < c → s i < 5) (hg : ∀ i, i < c → g i < 5) (i : Nat) : ∀ m, m ∈ pf_Q bl s g c i → m < 2 ^ 30 := by
  intro m hm
  rw [pf_Q, List.mem_filter, pf_PL] at hm
  by_cases hi : i < c
  · rw [if_pos hi, pf_tabP _ (hs i hi) _ (hg i hi)] at hm
    have h := pf_tabB _ (hs i hi) _ (hg i hi)
    rw [List.all_eq_true] at h
    exact of_decide_eq_true (h m hm.1)
  · rw [if_neg hi] at hm
    have : m = 0 := by simpa [pf_mask] using hm.1
    subst this
    decide
theorem pf_drop {Q : List Nat} {k d : Nat} {R : List Nat} (h : Q.drop k = d :: R) : k < Q.length ∧ Q.getD k 0 = d ∧ Q.drop (k + 1) = R ∧ d ∈ Q := by
  have hk : k < Q.length := by
    apply Nat.lt_of_not_le
    intro hle
    rw [List.drop_eq_nil_of_le hle] at h
    cases h
  rw [List.drop_eq_getElem_cons hk] at h
  injection h with h1 h2
  refine ⟨hk, ?_, h2, ?_⟩
  · rw [List.getD_eq_getElem?_getD, List.getElem?_eq_getElem hk]; exact h1
  · rw [← h1]; exact List.getElem_mem hk
theorem pf_drop0 {Q : List Nat} {k : Nat} (h : Q.drop k = []) : Q.length ≤ k := List.drop_eq_nil_iff.mp h
theorem pf_and0I {x y : Nat} (hy : y < 2 ^ 30) : (nI x &&& nI y = 0) ↔ x &&& y = 0 := by
  have : x &&& y ≤ y := Nat.and_le_right
  rw [nx_and, ← nI_0, nI_eq (by omega) (by omega)]
def pf_f3 (a b c d : Nat) : List (List Nat) := if (a ||| b ||| c) &&& d = 0 then [[d, c, b, a]] else []
def pf_f2 (Q3 : List Nat) (a b c : Nat) : List (List Nat) := if (a ||| b) &&& c = 0 then Q3.flatMap (pf_f3 a b c) else []
def pf_f1 (Q2 Q3 : List Nat) (a b : Nat) : List (List Nat) := if a &&& b = 0 then Q2.flatMap (pf_f2 Q3 a b) else []
def pf_f0 (Q1 Q2 Q3 : List Nat) (a : Nat) : List (List Nat) := Q1.flatMap (pf_f1 Q2 Q3 a)
theorem pf_G4 (Q : Nat → List Nat) : pf_G Q 4 0 0 [] = (Q 0).flatMap (pf_f0 (Q 1) (Q 2) (Q 3)) := by
  simp only [pf_G, Nat.zero_and, Nat.zero_or, if_true]
  rfl
section
variable {bc ec fn ld : Int32} {wt sr gr : Nat → Int32}
theorem xt_addPath {post : SX → Prop} {pl pn fp fc : Nat → Int32} {i k : Nat} {p : Int32} (hi : i < 4) (hk : k < 126) (hp : pn i = nI k) (h : post (bc, ec, fn, ld, wt, sr, gr, upd pl (126 * i + k) p, upd pn i (nI (k + 1)), fp, fc)) : wpX_addPath post (bc, ec, fn, ld, wt, sr, gr, pl, pn, fp, fc) (nI i) p := by
  have ci : (nI i).toNatClampNeg = i := nI_clamp (by omega)
  have vi : vp_in (nI i) 4 := vp_in_nI hi (by decide)
  have ea : (126 : Int32) * nI i + nI k = nI (126 * i + k) := by rw [show (126 : Int32) = nI 126 from rfl, pk_mul, nI_add]
  have ce : (nI (126 * i + k)).toNatClampNeg = 126 * i + k := nI_clamp (by omega)
  exact ⟨vi, nm_r (e' := nI k) (by rw [ci]; exact hp) (br_f (nI_ge (b := 126) hk (by decide)) ⟨by rw [ea]; exact vp_in_nI (by omega) (by decide), nm_r (e' := upd pl (126 * i + k) p) (by rw [ea, ce]) ⟨vi, nm_r (e' := upd pn i (nI (k + 1))) (by rw [ci, nI_1]) h⟩⟩)⟩
theorem xt_lp_l {post : SX → Prop} {fp fc : Nat → Int32} {bl i s g : Nat} (hbl : bl < 2 ^ 30) (hi : i < 4) (hs : s < 5) (hg : g < 5) (hsg : s ≤ g) (hsr : sr i = nI s) :
    ∀ (e q : Nat) (pl pn : Nat → Int32), q + e = 2 ^ (5 + (g - s)) → pf_PA (pf_cl bl s (g - s) q) i pl pn →
      (∀ pl' pn', pf_PA (pf_cl bl s (g - s) (2 ^ (5 + (g - s)))) i pl' pn' → (∀ j Q, j ≠ i → pf_PA Q j pl pn → pf_PA Q j pl' pn') → post (nI bl, ec, fn, ld, wt, sr, gr, pl', pn', fp, fc)) →
      wX_listPaths_44 post (nI i) (nI (g - s)) (nI (2 ^ (5 + (g - s)))) (e + 1) (nI q) (nI bl) ec fn ld wt sr gr pl pn fp fc := by
  have hN : 2 ^ (5 + (g - s)) < 2 ^ 31 := Nat.pow_lt_pow_right (by decide) (by omega)
  have ci : (nI i).toNatClampNeg = i := nI_clamp (by omega)
  have es : sr (nI i).toNatClampNeg = nI s := by rw [ci]; exact hsr
  intro e
  induction e with
  | zero =>
    intro q pl pn hq hPA h
    have eq : q = 2 ^ (5 + (g - s)) := by omega
    rw [eq] at hPA ⊢
    exact br_t (nI_le (Nat.le_refl _) hN) (h pl pn hPA (fun _ _ _ z => z))
  | succ e ih =>
    intro q pl pn hq hPA h
    have hqN : q < 2 ^ (5 + (g - s)) := by omega
    refine br_f (nI_ge hqN hN) ⟨vp_in_nI hi (by decide), ?_⟩
    rw [es]
    refine xt_freePath (by omega) hbl hqN ?_
    have hlt := pf_fp_lt (bl := bl) (s := s) (d := g - s) (q := q) (by omega) hqN
    have hcs := pf_cl_s bl s (g - s) q
    by_cases hf : pf_fp bl s (g - s) q = 0
    · rw [if_pos hf, List.append_nil] at hcs
      refine br_t (by rw [hf]; rfl) (nm_r (nI_1 q) (ih (q + 1) pl pn (by omega) (by rw [hcs]; exact hPA) h))
    · rw [if_neg hf] at hcs
      have room := pf_cl_room bl s g q hs hg hsg hqN hf
      refine br_f (nI_ne0 (by omega) (by omega)) (xt_addPath hi room hPA.1 (nm_r (nI_1 q) (ih (q + 1) _ _ (by omega) ?_ ?_)))
      · rw [hcs]; exact pf_PA_s hPA room _
      · intro pl' pn' h1 h2
        exact h pl' pn' h1 (fun j Q hj hQ => h2 j Q hj (pf_PA_fr hQ hj _ room _ _))
theorem xt_listPaths {post : SX → Prop} {pl pn fp fc : Nat → Int32} {bl c i : Nat} {s g : Nat → Nat} (hbl : bl < 2 ^ 30) (hc : c ≤ 4) (hi : i < 4) (hs : ∀ i, i < c → s i < 5) (hg : ∀ i, i < c → g i < 5) (hsr : ∀ i, i < c → sr i = nI (s i)) (hgr : ∀ i, i < c → gr i = nI (g i))
    (h : ∀ pl' pn', pf_PA (pf_Q bl s g c i) i pl' pn' → (∀ j Q, j ≠ i → pf_PA Q j pl pn → pf_PA Q j pl' pn') → post (nI bl, nI c, fn, ld, wt, sr, gr, pl', pn', fp, fc)) : wpX_listPaths post (nI bl, nI c, fn, ld, wt, sr, gr, pl, pn, fp, fc) (nI i) := by
  have ci : (nI i).toNatClampNeg = i := nI_clamp (by omega)
  have vi : vp_in (nI i) 4 := vp_in_nI hi (by decide)
  refine ⟨vi, nm_r (e' := upd pn i 0) (by rw [ci]) ?_⟩
  refine pk_lt i c (fun hic => ?_) (fun hic => ?_) rfl rfl (by omega) (by omega)
  · have es : sr (nI i).toNatClampNeg = nI (s i) := by rw [ci]; exact hsr i hic
    have eg : gr (nI i).toNatClampNeg = nI (g i) := by rw [ci]; exact hgr i hic
    have h5 := hs i hic
    have g5 := hg i hic
    have eQ : pf_Q bl s g c i = (pf_tab (s i) (g i)).filter (fun m => m &&& bl == 0) := by
      rw [pf_Q, pf_PL, if_pos hic, pf_tabP _ h5 _ g5]
    by_cases hsg : s i ≤ g i
    · refine ⟨vi, vi, nm_r (e' := nI (g i - s i)) (by rw [es, eg, pk_sub hsg]) (xt_codeCount (by omega) ⟨_, xt_lp_l hbl hi h5 g5 hsg (hsr i hic) (2 ^ (5 + (g i - s i))) 0 pl (upd pn i 0) (by omega) ?_ ?_⟩)⟩
      · exact ⟨pk_us, Nat.zero_le _, fun k hk => absurd hk (Nat.not_lt_zero _)⟩
      · intro pl' pn' h1 h2
        refine h pl' pn' ?_ (fun j Q hj hQ => h2 j Q hj (pf_PA_fr2 hQ hj 0))
        rw [eQ, ← pf_cl_end bl _ _ h5 g5 hsg]
        exact h1
    · refine ⟨vi, vi, nm_r (e' := nI (g i) - nI (s i)) (by rw [es, eg]) (br_f (Int32.not_le.mpr (pk_sneg (by omega) (by omega))) ⟨1, br_t (by decide) (h pl (upd pn i 0) ?_ (fun j Q hj hQ => pf_PA_fr2 hQ hj 0))⟩)⟩
      rw [eQ, pf_tabE _ h5 _ (by omega)]
      exact ⟨pk_us, Nat.zero_le _, fun k hk => absurd hk (Nat.not_lt_zero _)⟩
  · refine xt_addPath (k := 0) hi (by decide) pk_us (h _ _ ?_ (fun j Q hj hQ => pf_PA_fr (pf_PA_fr2 hQ hj 0) hj 0 (by decide) _ _))
    have eQ : pf_Q bl s g c i = [0] := by
      rw [pf_Q, pf_PL, if_neg (by omega)]
      simp [pf_mask]
    rw [eQ]
    exact pf_PA_s (Q := []) (i := i) (pl := pl) (pn := upd pn i 0) ⟨pk_us, Nat.zero_le _, fun k hk => absurd hk (Nat.not_lt_zero _)⟩ (by decide) 0
theorem xt_addFamily {post : SX → Prop} {pl pn fp fc : Nat → Int32} {a b c d : Nat} {E : List (List Nat)} (hE : E.length < 490) (hF : pf_Fam E fp fc)
    (h : ∀ fp' fc', pf_Fam (E ++ [[d, c, b, a]]) fp' fc' → post (bc, ec, nI (E.length + 1), ld, wt, sr, gr, pl, pn, fp', fc')) : wpX_addFamily post (bc, ec, nI E.length, ld, wt, sr, gr, pl, pn, fp, fc) (nI a) (nI b) (nI c) (nI d) := by
  have e4 : (4 : Int32) * nI E.length = nI (4 * E.length) := by rw [show (4 : Int32) = nI 4 from rfl, pk_mul]
  have c0 : (nI (4 * E.length)).toNatClampNeg = 4 * E.length := nI_clamp (by omega)
  have c1 : (nI (4 * E.length) + 1).toNatClampNeg = 4 * E.length + 1 := by rw [nI_1, nI_clamp (by omega)]
  have c2 : (nI (4 * E.length) + 2).toNatClampNeg = 4 * E.length + 2 := by rw [show nI (4 * E.length) + 2 = nI (4 * E.length + 2) from nI_add _ 2, nI_clamp (by omega)]
  have c3 : (nI (4 * E.length) + 3).toNatClampNeg = 4 * E.length + 3 := by rw [show nI (4 * E.length) + 3 = nI (4 * E.length + 3) from nI_add _ 3, nI_clamp (by omega)]
  have v0 : vp_in (nI (4 * E.length)) 1960 := vp_in_nI (by omega) (by decide)
  have v1 : vp_in (nI (4 * E.length) + 1) 1960 := by rw [nI_1]; exact vp_in_nI (by omega) (by decide)
  have v2 : vp_in (nI (4 * E.length) + 2) 1960 := by rw [show nI (4 * E.length) + 2 = nI (4 * E.length + 2) from nI_add _ 2]; exact vp_in_nI (by omega) (by decide)
  have v3 : vp_in (nI (4 * E.length) + 3) 1960 := by rw [show nI (4 * E.length) + 3 = nI (4 * E.length + 3) from nI_add _ 3]; exact vp_in_nI (by omega) (by decide)
  have cE : (nI E.length).toNatClampNeg = E.length := nI_clamp (by omega)
  refine br_f (nI_ge (b := 490) hE (by decide)) (nm_r e4 ⟨v0, nm_r (by rw [c0]) ⟨v1, nm_r (by rw [c1]) ⟨v2, nm_r (by rw [c2]) ⟨v3, nm_r (by rw [c3]) ⟨vp_in_nI hE (by decide), nm_r (e' := upd fc E.length (nI (a ||| b ||| c ||| d))) (by rw [cE, pf_or, pf_or, pf_or]) (nm_r (nI_1 E.length) (h _ _ (pf_Fam_s hF a b c d)))⟩⟩⟩⟩⟩)
theorem xt_39 {post : SX → Prop} {J : Int32 → Int32 → Int32 → Int32 → Int32 → (Nat → Int32) → (Nat → Int32) → (Nat → Int32) → (Nat → Int32) → (Nat → Int32) → (Nat → Int32) → (Nat → Int32) → Prop} {pl pn : Nat → Int32} {Q3 : List Nat} (hQ : pf_PA Q3 3 pl pn) (hb : ∀ m, m ∈ Q3 → m < 2 ^ 30) {a b c : Nat} {x : Int32} :
    ∀ (R : List Nat) (k : Nat) (E : List (List Nat)) (fp fc : Nat → Int32), Q3.drop k = R → k ≤ Q3.length → pf_Fam E fp fc → E.length + (R.flatMap (pf_f3 a b c)).length ≤ 490 →
      (∀ fp' fc', pf_Fam (E ++ R.flatMap (pf_f3 a b c)) fp' fc' → J (x + 1) bc ec (nI (E ++ R.flatMap (pf_f3 a b c)).length) ld wt sr gr pl pn fp' fc') →
      wX_listFamiliesWith_39 post J (nI a) (nI b) x (nI c) (R.length + 1) (nI k) bc ec (nI E.length) ld wt sr gr pl pn fp fc := by
  obtain ⟨q1, q2, q3⟩ := hQ
  intro R
  induction R with
  | nil =>
    intro k E fp fc hR hkl hF hl h
    have hk := pf_drop0 hR
    rw [List.flatMap_nil, List.append_nil] at h
    exact pk_le Q3.length k (fun _ => nm_e (h fp fc hF)) (fun z => absurd z (by omega)) q1 rfl (by omega) (by omega)
  | cons d R ih =>
    intro k E fp fc hR hkl hF hl h
    obtain ⟨hk, hd, hR', hm⟩ := pf_drop hR
    have ek : (378 : Int32) + nI k = nI (126 * 3 + k) := nI_add 378 k
    have ck : (nI (126 * 3 + k)).toNatClampNeg = 126 * 3 + k := nI_clamp (by omega)
    have hpl := q3 k hk
    rw [hd] at hpl
    have hdb := hb d hm
    rw [List.flatMap_cons, List.length_append] at hl
    refine pk_le Q3.length k (fun z => absurd z (by omega)) (fun _ => ?_) q1 rfl (by omega) (by omega)
    refine ⟨by rw [ek]; exact vp_in_nI (by omega) (by decide), nm_r (e' := nI d) (by rw [ek, ck]; exact hpl) ?_⟩
    rw [pf_or, pf_or]
    by_cases h0 : (a ||| b ||| c) &&& d = 0
    · have e3 : pf_f3 a b c d = [[d, c, b, a]] := if_pos h0
      rw [e3] at hl
      have hl1 : [[d, c, b, a]].length = 1 := rfl
      refine br_t ((pf_and0I hdb).mpr h0) (xt_addFamily (by omega) hF (fun fp' fc' hF' => nm_r (nI_1 k) ?_))
      have hlen : (E ++ [[d, c, b, a]]).length = E.length + 1 := by rw [List.length_append]; rfl
      have := ih (k + 1) (E ++ [[d, c, b, a]]) fp' fc' hR' hk hF' (by omega) (by
        intro fp2 fc2 h2
        rw [List.append_assoc, ← e3, ← List.flatMap_cons] at h2 ⊢
        exact h fp2 fc2 h2)
      rw [hlen] at this
      exact this
    · have e3 : pf_f3 a b c d = [] := if_neg h0
      rw [e3] at hl
      have hl1 : ([] : List (List Nat)).length = 0 := rfl
      refine br_f (fun z => h0 ((pf_and0I hdb).mp z)) (nm_r (nI_1 k) (ih (k + 1) E fp fc hR' hk hF (by omega) ?_))
      intro fp2 fc2 h2
      rw [List.flatMap_cons, e3, List.nil_append] at h
      exact h fp2 fc2 h2
theorem xt_2 {post : SX → Prop} {pl pn : Nat → Int32} {Q2 Q3 : List Nat} (hQ2 : pf_PA Q2 2 pl pn) (hQ3 : pf_PA Q3 3 pl pn) (hb2 : ∀ m, m ∈ Q2 → m < 2 ^ 30) (hb3 : ∀ m, m ∈ Q3 → m < 2 ^ 30) {a b : Nat} :
    ∀ (R : List Nat) (k : Nat) (E : List (List Nat)) (fp fc : Nat → Int32), Q2.drop k = R → k ≤ Q2.length → pf_Fam E fp fc → E.length + (R.flatMap (pf_f2 Q3 a b)).length ≤ 490 →
      (∀ fp' fc', pf_Fam (E ++ R.flatMap (pf_f2 Q3 a b)) fp' fc' → post (bc, ec, nI (E ++ R.flatMap (pf_f2 Q3 a b)).length, ld, wt, sr, gr, pl, pn, fp', fc')) →
      wX_listFamiliesWith_2 post (nI a) (nI b) (R.length + 1) (nI k) bc ec (nI E.length) ld wt sr gr pl pn fp fc := by
  obtain ⟨q1, q2, q3⟩ := hQ2
  intro R
  induction R with
  | nil =>
    intro k E fp fc hR hkl hF hl h
    have hk := pf_drop0 hR
    rw [List.flatMap_nil, List.append_nil] at h
    exact pk_le Q2.length k (fun _ => h fp fc hF) (fun z => absurd z (by omega)) q1 rfl (by omega) (by omega)
  | cons d R ih =>
    intro k E fp fc hR hkl hF hl h
    obtain ⟨hk, hd, hR', hm⟩ := pf_drop hR
    have ek : (252 : Int32) + nI k = nI (126 * 2 + k) := nI_add 252 k
    have ck : (nI (126 * 2 + k)).toNatClampNeg = 126 * 2 + k := nI_clamp (by omega)
    have hpl := q3 k hk
    rw [hd] at hpl
    have hdb := hb2 d hm
    rw [List.flatMap_cons, List.length_append] at hl
    refine pk_le Q2.length k (fun z => absurd z (by omega)) (fun _ => ?_) q1 rfl (by omega) (by omega)
    refine ⟨by rw [ek]; exact vp_in_nI (by omega) (by decide), nm_r (e' := nI d) (by rw [ek, ck]; exact hpl) ?_⟩
    rw [pf_or]
    by_cases h0 : (a ||| b) &&& d = 0
    · have e3 : pf_f2 Q3 a b d = Q3.flatMap (pf_f3 a b d) := if_pos h0
      rw [e3] at hl
      refine br_t ((pf_and0I hdb).mpr h0) ⟨Q3.length + 1, xt_39 hQ3 hb3 Q3 0 E fp fc rfl (Nat.zero_le _) hF (by omega) (fun fp' fc' hF' => ?_)⟩
      rw [nI_1]
      refine ih (k + 1) (E ++ Q3.flatMap (pf_f3 a b d)) fp' fc' hR' hk hF' (by rw [List.length_append]; omega) (fun fp2 fc2 h2 => ?_)
      rw [List.append_assoc, ← e3, ← List.flatMap_cons] at h2 ⊢
      exact h fp2 fc2 h2
    · have e3 : pf_f2 Q3 a b d = [] := if_neg h0
      rw [e3] at hl
      have hl1 : ([] : List (List Nat)).length = 0 := rfl
      refine br_f (fun z => h0 ((pf_and0I hdb).mp z)) (nm_r (nI_1 k) (ih (k + 1) E fp fc hR' hk hF (by omega) ?_))
      intro fp2 fc2 h2
      rw [List.flatMap_cons, e3, List.nil_append] at h
      exact h fp2 fc2 h2
theorem xt_26 {post : SX → Prop} {J : Int32 → Int32 → Int32 → Int32 → Int32 → (Nat → Int32) → (Nat → Int32) → (Nat → Int32) → (Nat → Int32) → (Nat → Int32) → (Nat → Int32) → (Nat → Int32) → Prop} {pl pn : Nat → Int32} {Q1 Q2 Q3 : List Nat} (hQ1 : pf_PA Q1 1 pl pn) (hQ2 : pf_PA Q2 2 pl pn) (hQ3 : pf_PA Q3 3 pl pn) (hb1 : ∀ m, m ∈ Q1 → m < 2 ^ 30) (hb2 : ∀ m, m ∈ Q2 → m < 2 ^ 30) (hb3 : ∀ m, m ∈ Q3 → m < 2 ^ 30) {a : Nat} {x : Int32} :
    ∀ (R : List Nat) (k : Nat) (E : List (List Nat)) (fp fc : Nat → Int32), Q1.drop k = R → k ≤ Q1.length → pf_Fam E fp fc → E.length + (R.flatMap (pf_f1 Q2 Q3 a)).length ≤ 490 →
      (∀ fp' fc', pf_Fam (E ++ R.flatMap (pf_f1 Q2 Q3 a)) fp' fc' → J (x + 1) bc ec (nI (E ++ R.flatMap (pf_f1 Q2 Q3 a)).length) ld wt sr gr pl pn fp' fc') →
      wX_listFamilies_26 post J x (nI a) (R.length + 1) (nI k) bc ec (nI E.length) ld wt sr gr pl pn fp fc := by
  obtain ⟨q1, q2, q3⟩ := hQ1
  intro R
  induction R with
  | nil =>
    intro k E fp fc hR hkl hF hl h
    have hk := pf_drop0 hR
    rw [List.flatMap_nil, List.append_nil] at h
    exact pk_le Q1.length k (fun _ => nm_e (h fp fc hF)) (fun z => absurd z (by omega)) q1 rfl (by omega) (by omega)
  | cons d R ih =>
    intro k E fp fc hR hkl hF hl h
    obtain ⟨hk, hd, hR', hm⟩ := pf_drop hR
    have ek : (126 : Int32) + nI k = nI (126 * 1 + k) := nI_add 126 k
    have ck : (nI (126 * 1 + k)).toNatClampNeg = 126 * 1 + k := nI_clamp (by omega)
    have hpl := q3 k hk
    rw [hd] at hpl
    have hdb := hb1 d hm
    rw [List.flatMap_cons, List.length_append] at hl
    refine pk_le Q1.length k (fun z => absurd z (by omega)) (fun _ => ?_) q1 rfl (by omega) (by omega)
    refine ⟨by rw [ek]; exact vp_in_nI (by omega) (by decide), nm_r (e' := nI d) (by rw [ek, ck]; exact hpl) ?_⟩
    by_cases h0 : a &&& d = 0
    · have e3 : pf_f1 Q2 Q3 a d = Q2.flatMap (pf_f2 Q3 a d) := if_pos h0
      rw [e3] at hl
      refine br_t ((pf_and0I hdb).mpr h0) ⟨Q2.length + 1, xt_2 hQ2 hQ3 hb2 hb3 Q2 0 E fp fc rfl (Nat.zero_le _) hF (by omega) (fun fp' fc' hF' => nm_r (nI_1 k) ?_)⟩
      refine ih (k + 1) (E ++ Q2.flatMap (pf_f2 Q3 a d)) fp' fc' hR' hk hF' (by rw [List.length_append]; omega) (fun fp2 fc2 h2 => ?_)
      rw [List.append_assoc, ← e3, ← List.flatMap_cons] at h2 ⊢
      exact h fp2 fc2 h2
    · have e3 : pf_f1 Q2 Q3 a d = [] := if_neg h0
      rw [e3] at hl
      have hl1 : ([] : List (List Nat)).length = 0 := rfl
      refine br_f (fun z => h0 ((pf_and0I hdb).mp z)) (nm_r (nI_1 k) (ih (k + 1) E fp fc hR' hk hF (by omega) ?_))
      intro fp2 fc2 h2
      rw [List.flatMap_cons, e3, List.nil_append] at h
      exact h fp2 fc2 h2
theorem xt_7 {post : SX → Prop} {pl pn : Nat → Int32} {Q0 Q1 Q2 Q3 : List Nat} (hQ0 : pf_PA Q0 0 pl pn) (hQ1 : pf_PA Q1 1 pl pn) (hQ2 : pf_PA Q2 2 pl pn) (hQ3 : pf_PA Q3 3 pl pn) (hb1 : ∀ m, m ∈ Q1 → m < 2 ^ 30) (hb2 : ∀ m, m ∈ Q2 → m < 2 ^ 30) (hb3 : ∀ m, m ∈ Q3 → m < 2 ^ 30) :
    ∀ (R : List Nat) (k : Nat) (E : List (List Nat)) (fp fc : Nat → Int32), Q0.drop k = R → k ≤ Q0.length → pf_Fam E fp fc → E.length + (R.flatMap (pf_f0 Q1 Q2 Q3)).length ≤ 490 →
      (∀ fp' fc', pf_Fam (E ++ R.flatMap (pf_f0 Q1 Q2 Q3)) fp' fc' → post (bc, ec, nI (E ++ R.flatMap (pf_f0 Q1 Q2 Q3)).length, ld, wt, sr, gr, pl, pn, fp', fc')) →
      wX_listFamilies_7 post (R.length + 1) (nI k) bc ec (nI E.length) ld wt sr gr pl pn fp fc := by
  obtain ⟨q1, q2, q3⟩ := hQ0
  intro R
  induction R with
  | nil =>
    intro k E fp fc hR hkl hF hl h
    have hk := pf_drop0 hR
    rw [List.flatMap_nil, List.append_nil] at h
    exact pk_le Q0.length k (fun _ => h fp fc hF) (fun z => absurd z (by omega)) q1 rfl (by omega) (by omega)
  | cons d R ih =>
    intro k E fp fc hR hkl hF hl h
    obtain ⟨hk, hd, hR', hm⟩ := pf_drop hR
    have ck : (nI k).toNatClampNeg = k := nI_clamp (by omega)
    have hpl := q3 k hk
    rw [hd, Nat.mul_zero, Nat.zero_add] at hpl
    rw [List.flatMap_cons, List.length_append] at hl
    refine pk_le Q0.length k (fun z => absurd z (by omega)) (fun _ => ?_) q1 rfl (by omega) (by omega)
    refine ⟨vp_in_nI (by omega) (by decide), nm_r (e' := nI d) (by rw [ck]; exact hpl) ⟨Q1.length + 1, xt_26 hQ1 hQ2 hQ3 hb1 hb2 hb3 Q1 0 E fp fc rfl (Nat.zero_le _) hF ?_ (fun fp' fc' hF' => ?_)⟩⟩
    · exact Nat.le_trans (Nat.add_le_add_left (Nat.le_add_right _ _) _) hl
    · rw [nI_1]
      refine ih (k + 1) (E ++ Q1.flatMap (pf_f1 Q2 Q3 d)) fp' fc' hR' hk hF' ?_ (fun fp2 fc2 h2 => ?_)
      · rw [List.length_append]
        have e0 : pf_f0 Q1 Q2 Q3 d = Q1.flatMap (pf_f1 Q2 Q3 d) := rfl
        rw [e0] at hl
        omega
      · have e0 : Q1.flatMap (pf_f1 Q2 Q3 d) = pf_f0 Q1 Q2 Q3 d := rfl
        rw [List.append_assoc, e0, ← List.flatMap_cons] at h2 ⊢
        exact h fp2 fc2 h2
theorem xt_listFamilies {post : SX → Prop} {pl pn fp fc : Nat → Int32} {Q : Nat → List Nat} (hQ : ∀ i, i < 4 → pf_PA (Q i) i pl pn) (hb : ∀ i, ∀ m, m ∈ Q i → m < 2 ^ 30) (hl : (pf_G Q 4 0 0 []).length ≤ 490)
    (h : ∀ fp' fc', pf_Fam (pf_G Q 4 0 0 []) fp' fc' → post (bc, ec, nI (pf_G Q 4 0 0 []).length, ld, wt, sr, gr, pl, pn, fp', fc')) : wpX_listFamilies post (bc, ec, fn, ld, wt, sr, gr, pl, pn, fp, fc) := by
  rw [pf_G4] at hl h
  refine ⟨(Q 0).length + 1, xt_7 (hQ 0 (by decide)) (hQ 1 (by decide)) (hQ 2 (by decide)) (hQ 3 (by decide)) (hb 1) (hb 2) (hb 3) (Q 0) 0 [] fp fc rfl (Nat.zero_le _) (pf_Fam_0 fp fc) ?_ ?_⟩
  · rw [List.length_nil, Nat.zero_add]; exact hl
  · intro fp' fc' hF
    rw [List.nil_append] at hF ⊢
    exact h fp' fc' hF
theorem xt_la_l {post : SX → Prop} {fp fc : Nat → Int32} {bl c : Nat} {s g : Nat → Nat} (hbl : bl < 2 ^ 30) (hc : c ≤ 4) (hs : ∀ i, i < c → s i < 5) (hg : ∀ i, i < c → g i < 5) (hsr : ∀ i, i < c → sr i = nI (s i)) (hgr : ∀ i, i < c → gr i = nI (g i)) (hl : (pf_F bl s g c 0 []).length ≤ 490)
    (h : ∀ pl' pn' fp' fc', pf_Fam ((pf_F bl s g c 0 []).map (pf_mks 4)) fp' fc' → post (nI bl, nI c, nI (pf_F bl s g c 0 []).length, ld, wt, sr, gr, pl', pn', fp', fc')) :
    ∀ (e i : Nat) (pl pn : Nat → Int32), i + e = 4 → (∀ j, j < i → pf_PA (pf_Q bl s g c j) j pl pn) → wX_listAnew_8 post (e + 1) (nI i) (nI bl) (nI c) fn ld wt sr gr pl pn fp fc := by
  intro e
  induction e with
  | zero =>
    intro i pl pn hi hP
    have ei : i = 4 := by omega
    subst ei
    refine br_t (nI_le (a := 4) (b := 4) (Nat.le_refl _) (by decide)) (xt_listFamilies (Q := pf_Q bl s g c) hP (fun i => pf_Q_lt hs hg i) ?_ ?_)
    · rw [← pf_F_G bl s g c hc, List.length_map]; exact hl
    · intro fp' fc' hF
      rw [← pf_F_G bl s g c hc] at hF ⊢
      rw [List.length_map]
      exact h pl pn fp' fc' hF
  | succ e ih =>
    intro i pl pn hi hP
    refine br_f (nI_ge (b := 4) (by omega) (by decide)) (xt_listPaths hbl hc (by omega) hs hg hsr hgr (fun pl' pn' h1 h2 => nm_r (nI_1 i) (ih (i + 1) pl' pn' (by omega) ?_)))
    intro j hj
    by_cases e1 : j = i
    · subst e1; exact h1
    · exact h2 j _ e1 (hP j (by omega))
theorem xt_listAnew {post : SX → Prop} {pl pn fp fc : Nat → Int32} {bl c : Nat} {s g : Nat → Nat} (hbl : bl < 2 ^ 30) (hc : c ≤ 4) (hs : ∀ i, i < c → s i < 5) (hg : ∀ i, i < c → g i < 5) (hsr : ∀ i, i < c → sr i = nI (s i)) (hgr : ∀ i, i < c → gr i = nI (g i)) (hl : (pf_F bl s g c 0 []).length ≤ 490)
    (h : ∀ pl' pn' fp' fc', pf_Fam ((pf_F bl s g c 0 []).map (pf_mks 4)) fp' fc' → post (nI bl, nI c, nI (pf_F bl s g c 0 []).length, -4, wt, sr, gr, pl', pn', fp', fc')) : wpX_listAnew post (nI bl, nI c, fn, ld, wt, sr, gr, pl, pn, fp, fc) :=
  ⟨5, xt_la_l hbl hc hs hg hsr hgr hl h 4 0 pl pn rfl (fun j hj => absurd hj (Nat.not_lt_zero _))⟩
end
