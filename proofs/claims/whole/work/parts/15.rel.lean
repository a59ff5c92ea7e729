/-! the relation -/
abbrev pf_L (bl A B : Nat) : List (List (Nat × Nat)) := pf_F bl (pf_m A) (pf_m B) (pf_cn A) 0 []
def pf_Ld (L : List (List (Nat × Nat))) (c : Nat) (ld rk lo : Int32) (kp ko : Nat → Int32) : Prop :=
  (ld = -4 ∧ rk = -4 ∧ lo = 0) ∨ ∃ (N : Nat) (S : List (Nat × Nat × Nat)), L[N]? = some (pf_st S) ∧ pf_Ok c S ∧ S ≠ [] ∧ ld = nI N ∧ rk = nI N ∧ lo = nI S.length ∧ pf_lay kp ko (pf_st S).reverse 0
def pf_R0 (bl A B : Nat) (sr gr fp fc bk st gl : Nat → Int32) : Prop :=
  bl < 2 ^ 30 ∧ 0 < A ∧ A < 32 ∧ B < 32 ∧ pf_cn A = pf_cn B ∧ pf_cn A ≤ 4 ∧ (∀ i, i < pf_cn A → sr i = nI (pf_m A i)) ∧ (∀ i, i < pf_cn A → gr i = nI (pf_m B i)) ∧ pf_XF (pf_L bl A B) fp fc ∧
  pf_bk bl bk ∧ (∀ i, i < pf_cn A → st i = nI (pf_m A i)) ∧ (∀ i, i < pf_cn A → gl i = nI (25 + pf_m B i))
def i_Rel (k : Nat) (u : SX) (v : SY) : Prop :=
  ∃ (bl A B : Nat) (ld gn rk lo : Int32) (wt sr gr pl pn fp fc bk st gl wk ow tr tk wy kp ko : Nat → Int32),
    u = (nI bl, nI (pf_cn A), nI (pf_L bl A B).length, ld, wt, sr, gr, pl, pn, fp, fc) ∧ v = (nI (pf_cn A), gn, rk, lo, bk, wt, st, gl, wk, ow, tr, tk, wy, kp, ko) ∧ pf_R0 bl A B sr gr fp fc bk st gl ∧ pf_Ld (pf_L bl A B) (pf_cn A) ld rk lo kp ko
theorem pf_mkRel {k bl A B : Nat} {ld gn rk lo : Int32} {wt sr gr pl pn fp fc bk st gl wk ow tr tk wy kp ko : Nat → Int32} (R : pf_R0 bl A B sr gr fp fc bk st gl) (D : pf_Ld (pf_L bl A B) (pf_cn A) ld rk lo kp ko) :
    i_Rel k (nI bl, nI (pf_cn A), nI (pf_L bl A B).length, ld, wt, sr, gr, pl, pn, fp, fc) (nI (pf_cn A), gn, rk, lo, bk, wt, st, gl, wk, ow, tr, tk, wy, kp, ko) :=
  ⟨bl, A, B, ld, gn, rk, lo, wt, sr, gr, pl, pn, fp, fc, bk, st, gl, wk, ow, tr, tk, wy, kp, ko, rfl, rfl, R, D⟩
theorem i_up {k : Nat} {u : SX} {v : SY} (h : i_Rel k u v) : i_Rel (k + 3) u v := h
section
variable {bl A B : Nat} {sr gr fp fc bk st gl : Nat → Int32}
theorem pf_hs (hA : A < 32) (hc : pf_cn A ≤ 4) : ∀ i, i < pf_cn A → pf_m A i < 5 := fun i hi => pf_m5 A hA i (by omega)
theorem pf_RC (R : pf_R0 bl A B sr gr fp fc bk st gl) : pf_YC bl (pf_cn A) (pf_m A) (pf_m B) bk st gl := by
  obtain ⟨h1, h2, h3, h4, h5, h6, h7, h8, h9, h10, h11, h12⟩ := R
  exact ⟨pf_cn1 A h3 h2, h6, pf_hs h3 h6, fun i hi => pf_m5 B h4 i (by omega), h11, h12, h10⟩
theorem pf_RL (R : pf_R0 bl A B sr gr fp fc bk st gl) : (pf_L bl A B).length ≤ 490 := by
  obtain ⟨h1, h2, h3, h4, h5, h6, h7, h8, h9, h10, h11, h12⟩ := R
  exact pf_L490 bl A B h3 h4 h5 h6
theorem pf_Lok (h2 : 0 < A) (h3 : A < 32) (h4 : B < 32) (h6 : pf_cn A ≤ 4) : ∀ V, V ∈ pf_L bl A B → ∃ S0, pf_Ok (pf_cn A) S0 ∧ V = pf_st S0 :=
  pf_F_ok (pf_cn1 A h3 h2) (pf_hs h3 h6) (fun i hi => pf_m5 B h4 i (by omega))
theorem pf_RM (R : pf_R0 bl A B sr gr fp fc bk st gl) : ∀ V, V ∈ pf_L bl A B → pf_ms V < 2 ^ 30 := by
  obtain ⟨h1, h2, h3, h4, h5, h6, h7, h8, h9, h10, h11, h12⟩ := R
  intro V hV
  obtain ⟨S0, hk, rfl⟩ := pf_Lok h2 h3 h4 h6 V hV
  exact pf_ms_lt hk
theorem pf_LXF (h2 : 0 < A) (h3 : A < 32) (h4 : B < 32) (h6 : pf_cn A ≤ 4) (hF : pf_Fam ((pf_L bl A B).map (pf_mks 4)) fp fc) : pf_XF (pf_L bl A B) fp fc := by
  refine pf_Fam_XF hF (fun V hV p hp => ?_)
  obtain ⟨S0, hk, rfl⟩ := pf_Lok h2 h3 h4 h6 V hV
  have := (pf_st_mem hk p hp).2
  omega
end
theorem pf_nm4 {N : Nat} (h : N < 2 ^ 31) : ¬ nI N = -4 := by
  intro e
  have := nI_pos (n := N) h
  rw [e] at this
  exact this (by decide)
theorem i_vc_rank {k : Nat} {u : SX} {v : SY} (I : i_Rel k u v) (hk : k + 3 ≤ 1536) : wpX_rank (fun r => wpY_rank (fun r' => r' = r ∧ i_Rel (k + 3) u v) v) u := by
  have I0 := I
  obtain ⟨bl, A, B, ld, gn, rk, lo, wt, sr, gr, pl, pn, fp, fc, bk, st, gl, wk, ow, tr, tk, wy, kp, ko, rfl, rfl, R, D⟩ := I
  refine ⟨?_, I0⟩
  rcases D with ⟨e1, e2, _⟩ | ⟨N, S, _, _, _, e1, e2, _⟩
  · exact e2.trans e1.symm
  · exact e2.trans e1.symm
theorem i_vc_families {k : Nat} {u : SX} {v : SY} (I : i_Rel k u v) (hk : k + 3 ≤ 1536) : wpX_families (fun r => wpY_families (fun r' v' => r' = r ∧ i_Rel (k + 3) u v') v) u := by
  obtain ⟨bl, A, B, ld, gn, rk, lo, wt, sr, gr, pl, pn, fp, fc, bk, st, gl, wk, ow, tr, tk, wy, kp, ko, rfl, rfl, R, D⟩ := I
  exact yt_families (gn := gn) (pf_RC R) (fun gn' wk' ow' tr' tk' => ⟨rfl, pf_mkRel R D⟩)
theorem i_vc_sum {k : Nat} {u : SX} {v : SY} (I : i_Rel k u v) (hk : k + 3 ≤ 1536) : wpX_sum (fun r => wpY_sum (fun r' v' => r' = r ∧ i_Rel (k + 3) u v') v) u := by
  obtain ⟨bl, A, B, ld, gn, rk, lo, wt, sr, gr, pl, pn, fp, fc, bk, st, gl, wk, ow, tr, tk, wy, kp, ko, rfl, rfl, R, D⟩ := I
  refine ⟨_, xt_sum_l (pf_RL R) R.2.2.2.2.2.2.2.2.1 (pf_RM R) (pf_L bl A B) 0 0 rfl (Nat.zero_le _) ?_⟩
  exact yt_sum (gn := gn) (pf_RC R) (fun gn' wk' ow' tr' tk' => ⟨rfl, pf_mkRel R D⟩)
theorem i_vc_through {k : Nat} {u : SX} {v : SY} (I : i_Rel k u v) (hk : k + 3 ≤ 1536) (v1 : Int32) : wpX_through (fun r => wpY_through (fun r' v' => r' = r ∧ i_Rel (k + 3) u v') v v1) u v1 := by
  have I0 := I
  obtain ⟨bl, A, B, ld, gn, rk, lo, wt, sr, gr, pl, pn, fp, fc, bk, st, gl, wk, ow, tr, tk, wy, kp, ko, rfl, rfl, R, D⟩ := I
  have bad : (v1 < 0 ∨ 30 ≤ v1) → wpX_through (fun r => wpY_through (fun r' v' => r' = r ∧ i_Rel (k + 3) (nI bl, nI (pf_cn A), nI (pf_L bl A B).length, ld, wt, sr, gr, pl, pn, fp, fc) v') (nI (pf_cn A), gn, rk, lo, bk, wt, st, gl, wk, ow, tr, tk, wy, kp, ko) v1) (nI bl, nI (pf_cn A), nI (pf_L bl A B).length, ld, wt, sr, gr, pl, pn, fp, fc) v1 := by
    intro hb
    unfold wpX_through
    dsimp only
    refine xt_isCell_f hb ?_
    refine br_t rfl ?_
    unfold wpY_through
    dsimp only
    unfold wpY_throughBoth
    dsimp only
    refine yt_noCell_t hb ?_
    exact br_f (by decide) ⟨rfl, I0⟩
  rcases pk_ix v1 (n := 30) (by decide) with h | h | ⟨a, ha, rfl⟩
  · exact bad (Or.inl h)
  · exact bad (Or.inr h)
  · unfold wpX_through
    dsimp only
    refine xt_isCell_t ha ?_
    refine br_f (by decide) ?_
    rw [pf_one (by omega)]
    refine ⟨_, xt_cfw_l (a := a) (b := a) (Nat.pow_lt_pow_right (by decide) (by omega)) (fun q => (pf_has1 q a).trans ⟨fun z => ⟨z, z⟩, fun z => z.1⟩) (pf_RL R) R.2.2.2.2.2.2.2.2.1 (pf_RM R) (pf_L bl A B) 0 0 rfl (Nat.zero_le _) ?_⟩
    exact yt_throughBoth (gn := gn) (pf_RC R) ha ha (fun gn' wk' ow' tr' tk' => ⟨rfl, pf_mkRel R D⟩)
theorem i_vc_throughBoth {k : Nat} {u : SX} {v : SY} (I : i_Rel k u v) (hk : k + 3 ≤ 1536) (v1 : Int32) (v2 : Int32) : wpX_throughBoth (fun r => wpY_throughBoth (fun r' v' => r' = r ∧ i_Rel (k + 3) u v') v v1 v2) u v1 v2 := by
  have I0 := I
  obtain ⟨bl, A, B, ld, gn, rk, lo, wt, sr, gr, pl, pn, fp, fc, bk, st, gl, wk, ow, tr, tk, wy, kp, ko, rfl, rfl, R, D⟩ := I
  unfold wpX_throughBoth
  dsimp only
  have bad1 : ∀ w1 : Int32, (w1 < 0 ∨ 30 ≤ w1) → wpY_throughBoth (fun r' v' => r' = -1 ∧ i_Rel (k + 3) (nI bl, nI (pf_cn A), nI (pf_L bl A B).length, ld, wt, sr, gr, pl, pn, fp, fc) v') (nI (pf_cn A), gn, rk, lo, bk, wt, st, gl, wk, ow, tr, tk, wy, kp, ko) w1 v2 := by
    intro w1 hb
    unfold wpY_throughBoth
    dsimp only
    refine yt_noCell_t hb ?_
    exact br_f (by decide) ⟨rfl, I0⟩
  have ok1 : ∀ a : Nat, a < 30 → (v2 < 0 ∨ 30 ≤ v2) → wpY_throughBoth (fun r' v' => r' = -1 ∧ i_Rel (k + 3) (nI bl, nI (pf_cn A), nI (pf_L bl A B).length, ld, wt, sr, gr, pl, pn, fp, fc) v') (nI (pf_cn A), gn, rk, lo, bk, wt, st, gl, wk, ow, tr, tk, wy, kp, ko) (nI a) v2 := by
    intro a ha hb
    unfold wpY_throughBoth
    dsimp only
    refine yt_noCell_f ha ?_
    refine br_t rfl ?_
    refine yt_noCell_t hb ?_
    exact br_f (by decide) ⟨rfl, I0⟩
  rcases pk_ix v1 (n := 30) (by decide) with h | h | ⟨a, ha, rfl⟩
  · refine xt_isCell_f (Or.inl h) ?_
    exact br_t rfl (bad1 v1 (Or.inl h))
  · refine xt_isCell_f (Or.inr h) ?_
    exact br_t rfl (bad1 v1 (Or.inr h))
  · refine xt_isCell_t ha ?_
    refine br_f (by decide) ?_
    rcases pk_ix v2 (n := 30) (by decide) with h | h | ⟨b, hb, rfl⟩
    · refine xt_isCell_f (Or.inl h) ?_
      exact br_t rfl (ok1 a ha (Or.inl h))
    · refine xt_isCell_f (Or.inr h) ?_
      exact br_t rfl (ok1 a ha (Or.inr h))
    · refine xt_isCell_t hb ?_
      refine br_f (by decide) ?_
      rw [pf_one (by omega), pf_one (by omega), pf_or]
      refine ⟨_, xt_cfw_l (a := a) (b := b) ?_ (fun q => pf_has2 q a b) (pf_RL R) R.2.2.2.2.2.2.2.2.1 (pf_RM R) (pf_L bl A B) 0 0 rfl (Nat.zero_le _) ?_⟩
      · exact Nat.or_lt_two_pow (Nat.pow_lt_pow_right (by decide) (by omega)) (Nat.pow_lt_pow_right (by decide) (by omega))
      · exact yt_throughBoth (gn := gn) (pf_RC R) ha hb (fun gn' wk' ow' tr' tk' => ⟨rfl, pf_mkRel R D⟩)
theorem i_vc_musts {k : Nat} {u : SX} {v : SY} (I : i_Rel k u v) (hk : k + 3 ≤ 1536) : wpX_musts (fun r => wpY_musts (fun r' v' => r' = r ∧ i_Rel (k + 3) u v') v) u := by
  obtain ⟨bl, A, B, ld, gn, rk, lo, wt, sr, gr, pl, pn, fp, fc, bk, st, gl, wk, ow, tr, tk, wy, kp, ko, rfl, rfl, R, D⟩ := I
  have hL := pf_RL R
  refine pk_eq (pf_L bl A B).length 0 (fun e => ?_) (fun e => ?_) rfl rfl (by omega) (by omega)
  · refine yt_musts (gn := gn) (pf_RC R) hL (fun gn' wk' ow' tr' tk' => ⟨?_, pf_mkRel R D⟩)
    rw [if_pos e]
  · obtain ⟨V, L', eL⟩ : ∃ V L', pf_L bl A B = V :: L' := by
      cases h : pf_L bl A B with
      | nil => rw [h] at e; exact absurd rfl e
      | cons V L' => exact ⟨V, L', rfl⟩
    have hX := R.2.2.2.2.2.2.2.2.1
    have h0 := (hX 0 V (by rw [eL]; rfl)).2
    have hV : pf_ms V < 2 ^ 30 := pf_RM R V (by rw [eL]; exact List.mem_cons_self ..)
    refine nm_r (e' := nI (pf_ms V)) h0 ⟨_, xt_musts_l hL hX L' 1 (pf_ms V) hV (by rw [eL]; rfl) (by omega) ?_⟩
    refine yt_musts (gn := gn) (pf_RC R) hL (fun gn' wk' ow' tr' tk' => ⟨?_, pf_mkRel R D⟩)
    rw [if_neg e, pf_al_musts]
    rw [show pf_F bl (pf_m A) (pf_m B) (pf_cn A) 0 [] = V :: L' from eL]
theorem i_vc_load {k : Nat} {u : SX} {v : SY} (I : i_Rel k u v) (hk : k + 3 ≤ 1536) (v1 : Int32) : wpX_load (fun r u' => wpY_load (fun r' v' => r' = r ∧ i_Rel (k + 3) u' v') v v1) u v1 := by
  have I0 := I
  obtain ⟨bl, A, B, ld, gn, rk, lo, wt, sr, gr, pl, pn, fp, fc, bk, st, gl, wk, ow, tr, tk, wy, kp, ko, rfl, rfl, R, D⟩ := I
  have hL := pf_RL R
  by_cases h0 : v1 < 0
  · exact br_t h0 (br_f (Int32.not_le.mpr h0) ⟨rfl, I0⟩)
  · obtain ⟨N, hN, rfl⟩ := nI_of h0
    refine br_f h0 (pk_lt N (pf_L bl A B).length (fun h => ?_) (fun h => ?_) rfl rfl hN (by omega))
    · refine yt_load (gn := gn) (pf_RC R) hN (fun hn => ?_) (fun S hS hok hne gn' wk' ow' tr' tk' kp' ko' hlay => ⟨rfl, pf_mkRel R (Or.inr ⟨N, S, hS, hok, hne, rfl, rfl, rfl, hlay⟩)⟩)
      rw [List.getElem?_eq_none_iff] at hn
      exact absurd h (Nat.not_lt.mpr hn)
    · refine yt_load (gn := gn) (pf_RC R) hN (fun hn gn' wk' ow' tr' tk' => ⟨rfl, pf_mkRel R D⟩) (fun S hS => ?_)
      rw [List.getElem?_eq_none_iff.mpr h] at hS
      cases hS
theorem i_vc_weight {k : Nat} {u : SX} {v : SY} (I : i_Rel k u v) (hk : k + 3 ≤ 1536) (v1 : Int32) (v2 : Int32) : wpX_weight (fun r u' => wpY_weight (fun r' v' => r' = r ∧ i_Rel (k + 3) u' v') v v1 v2) u v1 v2 := by
  have I0 := I
  obtain ⟨bl, A, B, ld, gn, rk, lo, wt, sr, gr, pl, pn, fp, fc, bk, st, gl, wk, ow, tr, tk, wy, kp, ko, rfl, rfl, R, D⟩ := I
  unfold wpX_weight
  dsimp only
  have bad : (v1 < 0 ∨ 30 ≤ v1) → wpY_weight (fun r' v' => r' = -1 ∧ i_Rel (k + 3) (nI bl, nI (pf_cn A), nI (pf_L bl A B).length, ld, wt, sr, gr, pl, pn, fp, fc) v') (nI (pf_cn A), gn, rk, lo, bk, wt, st, gl, wk, ow, tr, tk, wy, kp, ko) v1 v2 := by
    intro hb
    unfold wpY_weight
    dsimp only
    refine yt_noCell_t hb ?_
    exact br_f (by decide) ⟨rfl, I0⟩
  rcases pk_ix v1 (n := 30) (by decide) with h | h | ⟨a, ha, rfl⟩
  · refine xt_isCell_f (Or.inl h) ?_
    exact br_t rfl (bad (Or.inl h))
  · refine xt_isCell_f (Or.inr h) ?_
    exact br_t rfl (bad (Or.inr h))
  · have ca : (nI a).toNatClampNeg = a := nI_clamp (by omega)
    have va : vp_in (nI a) 30 := vp_in_nI ha (by decide)
    refine xt_isCell_t ha ?_
    refine br_f (by decide) ⟨va, nm_r (e' := upd wt a v2) (by rw [ca]) ?_⟩
    unfold wpY_weight
    dsimp only
    refine yt_noCell_f ha ?_
    exact br_t rfl ⟨va, nm_r (e' := upd wt a v2) (by rw [ca]) ⟨rfl, pf_mkRel R D⟩⟩
