theorem pf_filt_nil {c : Nat} {S : List (Nat × Nat × Nat)} {p0 : Int32} (hc : c ≤ 4) (hk : pf_Ok c S) (hp : p0 < 0 ∨ nI c ≤ p0) : (pf_st S).reverse.filter (fun p => decide (nI p.2 = p0)) = [] := by
  rw [List.filter_eq_nil_iff]
  intro p hm z
  have e := of_decide_eq_true z
  have h2 := (pf_st_mem hk p (List.mem_reverse.mp hm)).2
  rw [← e] at hp
  rcases hp with h | h
  · exact nI_pos (by omega) h
  · exact nI_ge h2 (by omega) h
theorem pf_filt_own {c i : Nat} {S : List (Nat × Nat × Nat)} (hc : c ≤ 4) (hi : i < c) (hk : pf_Ok c S) : ((pf_st S).reverse.filter (fun p => decide (nI p.2 = nI i))).map (fun p => p.1) = (pf_own i (pf_st S)).reverse := by
  rw [pf_own, List.filter_reverse, List.map_reverse]
  congr 2
  apply List.filter_congr
  intro p hp
  have h2 := (pf_st_mem hk p hp).2
  rw [Bool.eq_iff_iff, decide_eq_true_iff, beq_iff_eq, nI_eq (by omega) (by omega)]
theorem i_vc_cell {k : Nat} {u : SX} {v : SY} (I : i_Rel k u v) (hk : k + 3 ≤ 1536) (v1 : Int32) (v2 : Int32) : wpX_cell (fun r => wpY_cell (fun r' => r' = r ∧ i_Rel (k + 3) u v) v v1 v2) u v1 v2 := by
  have I0 := I
  obtain ⟨bl, A, B, ld, gn, rk, lo, wt, sr, gr, pl, pn, fp, fc, bk, st, gl, wk, ow, tr, tk, wy, kp, ko, rfl, rfl, R, D⟩ := I
  have hL := pf_RL R
  have hc : pf_cn A ≤ 4 := R.2.2.2.2.2.1
  rcases D with ⟨e1, e2, e3⟩ | ⟨N, S, hS, hok, hne, e1, e2, e3, hlay⟩
  · subst e1 e3
    exact br_t rfl ⟨1, br_t (by decide) ⟨rfl, I0⟩⟩
  · subst e1 e3
    have hN : N < (pf_L bl A B).length := by
      apply Nat.lt_of_not_le
      intro z
      rw [List.getElem?_eq_none_iff.mpr z] at hS
      cases hS
    have hlen := pf_Ok_len hok
    have el : (pf_st S).reverse.length = S.length := by rw [List.length_reverse, pf_st, List.length_map]
    refine br_f (pf_nm4 (by omega)) ?_
    have Y : ∀ r : Int32, r = pf_sel v2 (((pf_st S).reverse.filter (fun p => decide (nI p.2 = v1))).map (fun p => p.1)) 0 → wpY_cell (fun r' => r' = r ∧ i_Rel (k + 3) (nI bl, nI (pf_cn A), nI (pf_L bl A B).length, nI N, wt, sr, gr, pl, pn, fp, fc) (nI (pf_cn A), gn, rk, nI S.length, bk, wt, st, gl, wk, ow, tr, tk, wy, kp, ko)) (nI (pf_cn A), gn, rk, nI S.length, bk, wt, st, gl, wk, ow, tr, tk, wy, kp, ko) v1 v2 :=
      fun r er => ⟨_, yt_cell_l hlen (pf_st S).reverse 0 0 hlay (by rw [el, Nat.zero_add]) ⟨er.symm, I0⟩⟩
    rcases pk_ix v1 (n := pf_cn A) (by omega) with h | h | ⟨i, hi, rfl⟩
    · refine xt_isEnd_f (Or.inl h) ?_
      exact br_t rfl (Y (-4) (by rw [pf_filt_nil hc hok (Or.inl h)]; rfl))
    · refine xt_isEnd_f (Or.inr h) ?_
      exact br_t rfl (Y (-4) (by rw [pf_filt_nil hc hok (Or.inr h)]; rfl))
    · refine xt_isEnd_t hc hi ?_
      refine br_f (by decide) ?_
      have e4 : (4 : Int32) * nI N + nI i = nI (4 * N + i) := by rw [show (4 : Int32) = nI 4 from rfl, pk_mul, nI_add]
      have c4 : (nI (4 * N + i)).toNatClampNeg = 4 * N + i := nI_clamp (by omega)
      have hX := R.2.2.2.2.2.2.2.2.1
      have hf := (hX N _ hS).1 i (by omega)
      rw [e4, c4, hf]
      refine ⟨vp_in_nI (by omega) (by decide), ?_⟩
      have em : pf_mk i (pf_st S) = pf_mask (pf_own i (pf_st S)).reverse := pf_mask_ext _ _ (fun x => List.mem_reverse.symm)
      rw [em]
      refine xt_member _ (pf_own_asc hok i) (fun x hx => pf_own_lt hok i x (List.mem_reverse.mp hx)) ?_
      exact Y _ (by rw [pf_filt_own hc hi hok])
theorem i_vc_loadedWeight {k : Nat} {u : SX} {v : SY} (I : i_Rel k u v) (hk : k + 3 ≤ 1536) : wpX_loadedWeight (fun r => wpY_loadedWeight (fun r' => r' = r ∧ i_Rel (k + 3) u v) v) u := by
  have I0 := I
  obtain ⟨bl, A, B, ld, gn, rk, lo, wt, sr, gr, pl, pn, fp, fc, bk, st, gl, wk, ow, tr, tk, wy, kp, ko, rfl, rfl, R, D⟩ := I
  have hL := pf_RL R
  rcases D with ⟨e1, e2, e3⟩ | ⟨N, S, hS, hok, hne, e1, e2, e3, hlay⟩
  · subst e1 e3
    exact br_t rfl (br_t rfl ⟨rfl, I0⟩)
  · subst e1 e3
    have hN : N < (pf_L bl A B).length := by
      apply Nat.lt_of_not_le
      intro z
      rw [List.getElem?_eq_none_iff.mpr z] at hS
      cases hS
    have hlen := pf_Ok_len hok
    have hpos : 0 < S.length := List.length_pos_iff.mpr hne
    have el : (pf_st S).reverse.length = S.length := by rw [List.length_reverse, pf_st, List.length_map]
    have hX := R.2.2.2.2.2.2.2.2.1
    have hf := (hX N _ hS).2
    have cN : (nI N).toNatClampNeg = N := nI_clamp (by omega)
    have hm := pf_ms_lt hok
    refine br_f (pf_nm4 (by omega)) ⟨vp_in_nI (by omega) (by decide), ?_⟩
    rw [cN, hf]
    refine xt_weightOf (by omega) (br_f (nI_ne0 hpos (by omega)) ⟨_, yt_lw_l hlen (pf_st S).reverse 0 1 hlay (by rw [el, Nat.zero_add]) (fun p hp => (pf_st_mem hok p (List.mem_reverse.mp hp)).1) ⟨?_, I0⟩⟩)
    rw [pf_weight hok wt]
theorem i_vc_paths {k : Nat} {u : SX} {v : SY} (I : i_Rel k u v) (hk : k + 3 ≤ 1536) (v1 : Int32) (v2 : Int32) : wpX_paths (fun r => wpY_paths (fun r' v' => r' = r ∧ i_Rel (k + 3) u v') v v1 v2) u v1 v2 := by
  have I0 := I
  obtain ⟨bl, A, B, ld, gn, rk, lo, wt, sr, gr, pl, pn, fp, fc, bk, st, gl, wk, ow, tr, tk, wy, kp, ko, rfl, rfl, R, D⟩ := I
  have R' := R
  obtain ⟨r1, r2, r3, r4, r5, r6, r7, r8, r9, r10, r11, r12⟩ := R'
  unfold wpX_paths
  dsimp only
  have bad1 : (v1 < 0 ∨ nI (pf_cn A) ≤ v1) → wpY_paths (fun r' v' => r' = -1 ∧ i_Rel (k + 3) (nI bl, nI (pf_cn A), nI (pf_L bl A B).length, ld, wt, sr, gr, pl, pn, fp, fc) v') (nI (pf_cn A), gn, rk, lo, bk, wt, st, gl, wk, ow, tr, tk, wy, kp, ko) v1 v2 :=
    fun hb => br_c (fun _ => ⟨rfl, I0⟩) (fun hn => br_t (hb.resolve_left hn) ⟨rfl, I0⟩)
  have bad2 : ∀ i : Nat, i < pf_cn A → (v2 < 0 ∨ nI (pf_cn A) ≤ v2) → wpY_paths (fun r' v' => r' = -1 ∧ i_Rel (k + 3) (nI bl, nI (pf_cn A), nI (pf_L bl A B).length, ld, wt, sr, gr, pl, pn, fp, fc) v') (nI (pf_cn A), gn, rk, lo, bk, wt, st, gl, wk, ow, tr, tk, wy, kp, ko) (nI i) v2 :=
    fun i hi hb => br_f (nI_pos (by omega)) (br_f (nI_ge hi (by omega)) (br_c (fun _ => ⟨rfl, I0⟩) (fun hn => br_f (Int32.not_lt.mpr (hb.resolve_left hn)) ⟨rfl, I0⟩)))
  rcases pk_ix v1 (n := pf_cn A) (by omega) with h | h | ⟨i, hi, rfl⟩
  · refine xt_isEnd_f (Or.inl h) ?_
    exact br_t rfl (bad1 (Or.inl h))
  · refine xt_isEnd_f (Or.inr h) ?_
    exact br_t rfl (bad1 (Or.inr h))
  · refine xt_isEnd_t r6 hi ?_
    refine br_f (by decide) ?_
    rcases pk_ix v2 (n := pf_cn A) (by omega) with h | h | ⟨j, hj, rfl⟩
    · refine xt_isEnd_f (Or.inl h) ?_
      exact br_t rfl (bad2 i hi (Or.inl h))
    · refine xt_isEnd_f (Or.inr h) ?_
      exact br_t rfl (bad2 i hi (Or.inr h))
    · refine xt_isEnd_t r6 hj ?_
      refine br_f (by decide) ?_
      have hs5 := pf_m5 A r3 i (by omega)
      have hg5 := pf_m5 B r4 j (by omega)
      have ci : (nI i).toNatClampNeg = i := nI_clamp (by omega)
      have cj : (nI j).toNatClampNeg = j := nI_clamp (by omega)
      have vi : vp_in (nI i) 4 := vp_in_nI (by omega) (by decide)
      have vj : vp_in (nI j) 4 := vp_in_nI (by omega) (by decide)
      have es : sr (nI i).toNatClampNeg = nI (pf_m A i) := by rw [ci]; exact r7 i hi
      have eg : gr (nI j).toNatClampNeg = nI (pf_m B j) := by rw [cj]; exact r8 j hj
      have Y : ∀ r : Int32, nI (pf_wv bl (pf_m A i) (25 + pf_m B j)) = r → wpY_paths (fun r' v' => r' = r ∧ i_Rel (k + 3) (nI bl, nI (pf_cn A), nI (pf_L bl A B).length, ld, wt, sr, gr, pl, pn, fp, fc) v') (nI (pf_cn A), gn, rk, lo, bk, wt, st, gl, wk, ow, tr, tk, wy, kp, ko) (nI i) (nI j) := by
        intro r er
        have es' : st (nI i).toNatClampNeg = nI (pf_m A i) := by rw [ci]; exact r11 i hi
        have eg' : gl (nI j).toNatClampNeg = nI (25 + pf_m B j) := by rw [cj]; exact r12 j hj
        refine br_f (nI_pos (by omega)) (br_f (nI_ge hi (by omega)) (br_f (nI_pos (by omega)) (br_t (nI_lt hj (by omega)) ⟨vi, vj, ?_⟩)))
        rw [es', eg']
        exact yt_ways r10 hs5 (by omega) (fun wy' => ⟨er, pf_mkRel R D⟩)
      refine ⟨vj, vi, ?_⟩
      by_cases hsg : pf_m A i ≤ pf_m B j
      · refine nm_r (e' := nI (pf_m B j - pf_m A i)) (by rw [es, eg, pk_sub hsg]) ?_
        refine xt_codeCount (by omega) ⟨_, xt_paths_l r1 (by omega) (by omega) (r7 i hi) (Y _ ?_) (2 ^ (5 + (pf_m B j - pf_m A i))) 0 (by omega)⟩
        rw [pf_wv, show (25 + pf_m B j) % 5 = pf_m B j by omega, if_pos hsg, show (25 + pf_m B j) / 5 = 5 by omega]
      · refine nm_r (e' := nI (pf_m B j) - nI (pf_m A i)) (by rw [es, eg]) ?_
        refine br_f (Int32.not_le.mpr (pk_sneg (by omega) (by omega))) ⟨1, br_t (by decide) (Y 0 ?_)⟩
        rw [pf_wv_lo bl _ _ (by omega)]
        rfl
theorem pf_clr (bl x y : Nat) (hy : y < 30) : (bl &&& (2 ^ x ^^^ 4294967295)).testBit y = (bl.testBit y && !decide (x = y)) := by
  rw [Nat.testBit_and, Nat.testBit_xor, Nat.testBit_two_pow, show (4294967295 : Nat) = 2 ^ 32 - 1 from rfl, Nat.testBit_two_pow_sub_one, decide_eq_true (show y < 32 by omega), Bool.xor_true]
theorem pf_bk_set {bl x : Nat} {bk : Nat → Int32} (h : pf_bk bl bk) : pf_bk (bl ||| 2 ^ x) (upd bk x 1) := by
  intro y hy
  rw [Nat.testBit_or, Nat.testBit_two_pow]
  by_cases e : y = x
  · subst e
    rw [pk_us, decide_eq_true rfl, Bool.or_true, if_pos rfl]
  · rw [pk_un e, decide_eq_false (fun z => e z.symm), Bool.or_false]
    exact h y hy
theorem pf_bk_clr {bl x : Nat} {bk : Nat → Int32} (h : pf_bk bl bk) : pf_bk (bl &&& (2 ^ x ^^^ 4294967295)) (upd bk x 0) := by
  intro y hy
  rw [pf_clr bl x y hy]
  by_cases e : y = x
  · subst e
    rw [pk_us, decide_eq_true rfl, Bool.not_true, Bool.and_false, if_neg (by decide)]
  · rw [pk_un e, decide_eq_false (fun z => e z.symm), Bool.not_false, Bool.and_true]
    exact h y hy
theorem i_vc_block {k : Nat} {u : SX} {v : SY} (I : i_Rel k u v) (hk : k + 3 ≤ 1536) (v1 : Int32) (v2 : Int32) : wpX_block (fun r u' => wpY_block (fun r' v' => r' = r ∧ i_Rel (k + 3) u' v') v v1 v2) u v1 v2 := by
  have I0 := I
  obtain ⟨bl, A, B, ld, gn, rk, lo, wt, sr, gr, pl, pn, fp, fc, bk, st, gl, wk, ow, tr, tk, wy, kp, ko, rfl, rfl, R, D⟩ := I
  obtain ⟨r1, r2, r3, r4, r5, r6, r7, r8, r9, r10, r11, r12⟩ := R
  unfold wpX_block
  dsimp only
  have bad : (v1 < 0 ∨ 30 ≤ v1) → wpY_block (fun r' v' => r' = -1 ∧ i_Rel (k + 3) (nI bl, nI (pf_cn A), nI (pf_L bl A B).length, ld, wt, sr, gr, pl, pn, fp, fc) v') (nI (pf_cn A), gn, rk, lo, bk, wt, st, gl, wk, ow, tr, tk, wy, kp, ko) v1 v2 := by
    intro hb
    unfold wpY_block
    dsimp only
    refine yt_noCell_t hb ?_
    exact br_f (by decide) ⟨rfl, I0⟩
  rcases pk_ix v1 (n := 30) (by decide) with h | h | ⟨x, hx, rfl⟩
  · refine xt_isCell_f (Or.inl h) ?_
    exact br_t rfl (bad (Or.inl h))
  · refine xt_isCell_f (Or.inr h) ?_
    exact br_t rfl (bad (Or.inr h))
  · have cx : (nI x).toNatClampNeg = x := nI_clamp (by omega)
    have vx : vp_in (nI x) 30 := vp_in_nI hx (by decide)
    have hsA := pf_hs r3 r6
    have hsB : ∀ i, i < pf_cn A → pf_m B i < 5 := fun i hi => pf_m5 B r4 i (by omega)
    refine xt_isCell_t hx ?_
    refine br_f (by decide) (nm_r (e' := nI (bl / 2 ^ x % 2)) (pf_bit (by omega) (by omega)) ?_)
    have Yb : ∀ (bl' : Nat) (z : Int32) (pl' pn' fp' fc' : Nat → Int32), (v2 = 0 → z = 0) → (¬ v2 = 0 → z = 1) → bl' < 2 ^ 30 → pf_bk bl' (upd bk x z) → pf_XF (pf_L bl' A B) fp' fc' →
        wpY_block (fun r' v' => r' = nI (bl / 2 ^ x % 2) ∧ i_Rel (k + 3) (nI bl', nI (pf_cn A), nI (pf_L bl' A B).length, -4, wt, sr, gr, pl', pn', fp', fc') v') (nI (pf_cn A), gn, rk, lo, bk, wt, st, gl, wk, ow, tr, tk, wy, kp, ko) (nI x) v2 := by
      intro bl' z pl' pn' fp' fc' z0 z1 hbl' hbk' hX'
      have fin : ∀ old : Int32, old = nI (bl / 2 ^ x % 2) → wY_block_24 (fun r' v' => r' = nI (bl / 2 ^ x % 2) ∧ i_Rel (k + 3) (nI bl', nI (pf_cn A), nI (pf_L bl' A B).length, -4, wt, sr, gr, pl', pn', fp', fc') v') (nI x) v2 old (nI (pf_cn A)) gn rk lo bk wt st gl wk ow tr tk wy kp ko := by
        intro old ho
        have R1 : pf_R0 bl' A B sr gr fp' fc' (upd bk x z) st gl := ⟨hbl', r2, r3, r4, r5, r6, r7, r8, hX', hbk', r11, r12⟩
        by_cases h2 : v2 = 0
        · have ez := z0 h2
          subst ez
          exact br_t h2 ⟨vx, nm_r (e' := upd bk x 0) (by rw [cx, yt_b0]) ⟨ho, pf_mkRel R1 (Or.inl ⟨rfl, rfl, rfl⟩)⟩⟩
        · have ez := z1 h2
          subst ez
          exact br_f h2 ⟨vx, nm_r (e' := upd bk x 1) (by rw [cx, yt_b1]) ⟨ho, pf_mkRel R1 (Or.inl ⟨rfl, rfl, rfl⟩)⟩⟩
      have eb : bk (nI x).toNatClampNeg = 0 ↔ ¬ bl.testBit x = true := by rw [cx]; exact yt_bit r10 hx
      unfold wpY_block
      dsimp only
      refine yt_noCell_f hx ?_
      refine br_t rfl ⟨vx, ?_⟩
      by_cases hb : bl.testBit x = true
      · exact br_f (fun z => eb.mp z hb) (fin 1 (by rw [pf_tb, if_pos hb]; rfl))
      · exact br_t (eb.mpr hb) (fin 0 (by rw [pf_tb, if_neg hb]; rfl))
    by_cases h2 : v2 = 0
    · have e : nI bl &&& (((1 : Int32) <<< (nI x &&& 31)) ^^^ (-1)) = nI (bl &&& (2 ^ x ^^^ 4294967295)) := by
        rw [pf_one (by omega), show (-1 : Int32) = nI 4294967295 from by decide +kernel, nx_xor, nx_and]
      have hle : bl &&& (2 ^ x ^^^ 4294967295) ≤ bl := Nat.and_le_left
      refine br_t h2 (nm_r e (xt_listAnew (by omega) r6 hsA hsB r7 r8 (pf_L490 _ A B r3 r4 r5 r6) (fun pl' pn' fp' fc' hF => ?_)))
      exact Yb _ 0 pl' pn' fp' fc' (fun _ => rfl) (fun z => absurd h2 z) (by omega) (pf_bk_clr r10) (pf_LXF r2 r3 r4 r6 hF)
    · have e : nI bl ||| ((1 : Int32) <<< (nI x &&& 31)) = nI (bl ||| 2 ^ x) := by
        rw [pf_one (by omega), pf_or]
      have hlt : bl ||| 2 ^ x < 2 ^ 30 := Nat.or_lt_two_pow r1 (Nat.pow_lt_pow_right (by decide) hx)
      refine br_f h2 (nm_r e (xt_listAnew hlt r6 hsA hsB r7 r8 (pf_L490 _ A B r3 r4 r5 r6) (fun pl' pn' fp' fc' hF => ?_)))
      exact Yb _ 1 pl' pn' fp' fc' (fun z => absurd z h2) (fun _ => rfl) hlt (pf_bk_set r10) (pf_LXF r2 r3 r4 r6 hF)
theorem pf_rs (v : Int32) : v < 1 ∨ 31 < v ∨ ∃ A : Nat, 0 < A ∧ A < 32 ∧ v = nI A := by
  rcases pk_ix v (n := 32) (by decide) with h | h | ⟨j, hj, rfl⟩
  · exact Or.inl (Int32.lt_trans h (by decide))
  · exact Or.inr (Or.inl (Int32.lt_of_lt_of_le (by decide) h))
  · by_cases h0 : j = 0
    · subst h0
      exact Or.inl (by decide)
    · exact Or.inr (Or.inr ⟨j, by omega, hj, rfl⟩)
theorem pf_ge1 {A : Nat} (h0 : 0 < A) (h : A < 32) : ¬ nI A < 1 := nI_nlt (b := 1) h0 (by omega)
theorem pf_le31 {A : Nat} (h : A < 32) : ¬ (31 : Int32) < nI A := nI_nlt (a := 31) (b := A) (by omega) (by decide)
theorem xt_rs_t {post : Int32 → Prop} {A : Nat} (h0 : 0 < A) (h : A < 32) (hp : post 1) : wpX_isRowSet post (nI A) := br_f (pf_ge1 h0 h) (br_f (pf_le31 h) hp)
theorem xt_rs_f {post : Int32 → Prop} {p : Int32} (h : p < 1 ∨ 31 < p) (hp : post 0) : wpX_isRowSet post p := br_c (fun _ => hp) (fun hn => br_t (h.resolve_left hn) hp)
theorem i_vc_ends {k : Nat} {u : SX} {v : SY} (I : i_Rel k u v) (hk : k + 3 ≤ 1536) (v1 : Int32) (v2 : Int32) : wpX_ends (fun r u' => wpY_ends (fun r' v' => r' = r ∧ i_Rel (k + 3) u' v') v v1 v2) u v1 v2 := by
  have I0 := I
  obtain ⟨bl, A, B, ld, gn, rk, lo, wt, sr, gr, pl, pn, fp, fc, bk, st, gl, wk, ow, tr, tk, wy, kp, ko, rfl, rfl, R, D⟩ := I
  obtain ⟨r1, r2, r3, r4, r5, r6, r7, r8, r9, r10, r11, r12⟩ := R
  unfold wpX_ends
  dsimp only
  have bad1 : ∀ w1 : Int32, (w1 < 1 ∨ 31 < w1) → wpY_ends (fun r' v' => r' = -1 ∧ i_Rel (k + 3) (nI bl, nI (pf_cn A), nI (pf_L bl A B).length, ld, wt, sr, gr, pl, pn, fp, fc) v') (nI (pf_cn A), gn, rk, lo, bk, wt, st, gl, wk, ow, tr, tk, wy, kp, ko) w1 v2 :=
    fun w1 hb => br_c (fun _ => ⟨rfl, I0⟩) (fun hn => br_t (hb.resolve_left hn) ⟨rfl, I0⟩)
  have bad2 : ∀ P : Nat, 0 < P → P < 32 → (v2 < 1 ∨ 31 < v2) → wpY_ends (fun r' v' => r' = -1 ∧ i_Rel (k + 3) (nI bl, nI (pf_cn A), nI (pf_L bl A B).length, ld, wt, sr, gr, pl, pn, fp, fc) v') (nI (pf_cn A), gn, rk, lo, bk, wt, st, gl, wk, ow, tr, tk, wy, kp, ko) (nI P) v2 :=
    fun P p0 p1 hb => br_f (pf_ge1 p0 p1) (br_f (pf_le31 p1) (br_c (fun _ => ⟨rfl, I0⟩) (fun hn => br_f (Int32.not_le.mpr (hb.resolve_left hn)) ⟨rfl, I0⟩)))
  rcases pf_rs v1 with h | h | ⟨P, p0, p1, rfl⟩
  · refine xt_rs_f (Or.inl h) ?_
    exact br_t rfl (bad1 v1 (Or.inl h))
  · refine xt_rs_f (Or.inr h) ?_
    exact br_t rfl (bad1 v1 (Or.inr h))
  · refine xt_rs_t p0 p1 ?_
    refine br_f (by decide) ?_
    rcases pf_rs v2 with h | h | ⟨G, g0, g1, rfl⟩
    · refine xt_rs_f (Or.inl h) ?_
      exact br_t rfl (bad2 P p0 p1 (Or.inl h))
    · refine xt_rs_f (Or.inr h) ?_
      exact br_t rfl (bad2 P p0 p1 (Or.inr h))
    · refine xt_rs_t g0 g1 ?_
      refine br_f (by decide) ?_
      have cP := pf_cnP P p1
      have cG := pf_cnP G g1
      have lP : pf_cn P ≤ 5 := List.length_filter_le (fun r => P.testBit r) (List.range 5)
      have lG : pf_cn G ≤ 5 := List.length_filter_le (fun r => G.testBit r) (List.range 5)
      have Yw : ∀ post : Int32 → SY → Prop, (¬ (pf_cn P = pf_cn G ∧ pf_cn P ≤ 4) → post (-1) (nI (pf_cn A), gn, rk, lo, bk, wt, st, gl, wk, ow, tr, tk, wy, kp, ko)) →
          (pf_cn P = pf_cn G → pf_cn P ≤ 4 → ∀ st' gl', pf_rw (fun x => x) (pf_lr P 5) st' → pf_rw (fun x => 25 + x) (pf_lr G 5) gl' → post (nI (pf_cn P)) (nI (pf_cn P), gn, -4, 0, bk, wt, st', gl', wk, ow, tr, tk, wy, kp, ko)) →
          wpY_ends post (nI (pf_cn A), gn, rk, lo, bk, wt, st, gl, wk, ow, tr, tk, wy, kp, ko) (nI P) (nI G) := by
        intro post n1 n2
        refine br_f (pf_ge1 p0 p1) (br_f (pf_le31 p1) (br_f (pf_ge1 g0 g1) (br_t (nI_le (b := 31) (by omega) (by decide)) ?_)))
        refine yt_size (m := P) (by omega) ?_
        refine yt_size (m := G) (by omega) ?_
        rw [cP.2, cG.2]
        refine pk_eq (pf_cn P) (pf_cn G) (fun e => ?_) (fun e => n1 (fun z => e z.1)) rfl rfl (by omega) (by omega)
        refine pk_le (pf_cn P) 4 (fun e4 => ?_) (fun e4 => n1 (fun z => absurd z.2 (by omega))) rfl rfl (by omega) (by omega)
        exact ⟨6, yt_60 p1 g1 e4 (by omega) (n2 e e4) 5 0 st gl rfl (fun k hk => absurd hk (Nat.not_lt_zero _)) (fun k hk => absurd hk (Nat.not_lt_zero _))⟩
      refine xt_countBits (m := P) (by omega) ?_
      rw [cP.1]
      refine pk_lt 4 (pf_cn P) (fun e4 => Yw _ (fun _ => ⟨rfl, I0⟩) (fun _ z => absurd z (by omega))) (fun e4 => ?_) rfl rfl (by omega) (by omega)
      refine xt_countBits (m := G) (by omega) ?_
      rw [cG.1]
      refine pk_eq (pf_cn P) (pf_cn G) (fun e => ?_) (fun e => Yw _ (fun _ => ⟨rfl, I0⟩) (fun z _ => absurd z e)) rfl rfl (by omega) (by omega)
      refine ⟨_, xt_ends_l p1 g1 rfl e.symm e4 (fun sr' gr' hs' hg' => ?_) (pf_cn P) 0 sr gr (by omega) (fun k hk => absurd hk (Nat.not_lt_zero _)) (fun k hk => absurd hk (Nat.not_lt_zero _))⟩
      refine xt_listAnew r1 e4 (pf_hs p1 e4) (fun i hi => pf_m5 G g1 i (by omega)) hs' hg' (pf_L490 bl P G p1 g1 e e4) (fun pl' pn' fp' fc' hF => ?_)
      refine Yw _ (fun z => absurd ⟨e, e4⟩ z) (fun _ _ st' gl' hst hgl => ⟨rfl, ?_⟩)
      exact pf_mkRel (bl := bl) (A := P) (B := G) ⟨r1, p0, p1, g1, e, e4, hs', hg', pf_LXF p0 p1 g1 e4 hF, r10, fun i hi => hst i hi, fun i hi => hgl i (by rw [e] at hi; exact hi)⟩ (Or.inl ⟨rfl, rfl, rfl⟩)
def pf_w1 (i : Nat) : Nat → Int32 := fun j => if j < i then 1 else 0
theorem pf_w1_s (i : Nat) : upd (pf_w1 i) i 1 = pf_w1 (i + 1) := by
  funext j
  by_cases e : j = i
  · subst e
    rw [pk_us, pf_w1, if_pos (Nat.lt_succ_self _)]
  · rw [pk_un e, pf_w1, pf_w1]
    by_cases h : j < i
    · rw [if_pos h, if_pos (by omega)]
    · rw [if_neg h, if_neg (by omega)]
theorem pf_1 : pf_cn 1 = 1 ∧ pf_cn 16 = 1 ∧ pf_m 1 0 = 0 ∧ pf_m 16 0 = 4 := by decide +kernel
theorem yt_init {post : SY → Prop} (h : post (1, 0, -4, 0, (fun _ => 0), pf_w1 30, upd (fun _ => 0) 0 0, upd (fun _ => 0) 0 29, (fun _ => 0), (fun _ => 0), (fun _ => 0), (fun _ => 0), (fun _ => 0), (fun _ => 0), (fun _ => 0))) : wpY_init post := by
  refine loop_0 (fun n i (wt : Nat → Int32) => wY_init_92 post 0 0 0 0 n (nI i) (fun _ => 0) wt (fun _ => 0) (fun _ => 0) (fun _ => 0) (fun _ => 0) (fun _ => 0) (fun _ => 0) (fun _ => 0) (fun _ => 0) (fun _ => 0)) (fun i wt => wt = pf_w1 i) 30 (fun _ => 0) rfl ?_ ?_
  · intro n wt hw
    subst hw
    exact br_t xt_30 (nm_e (nm_e h))
  · intro n i wt hi hw hn
    subst hw
    exact br_f (xt_in30 hi) ⟨vp_in_nI hi (by decide), nm_r (e' := pf_w1 (i + 1)) (by rw [nI_clamp (by omega), pf_w1_s]) (nm_r (nI_1 i) (hn _ rfl))⟩
theorem xt_init {post : SX → Prop} (h : wpX_listAnew post (0, 1, 0, 0, pf_w1 30, upd (fun _ => 0) 0 0, upd (fun _ => 0) 0 4, (fun _ => 0), (fun _ => 0), (fun _ => 0), (fun _ => 0))) : wpX_init post := by
  refine loop_0 (fun n i (wt : Nat → Int32) => wX_init_62 post 0 0 0 0 n (nI i) wt (fun _ => 0) (fun _ => 0) (fun _ => 0) (fun _ => 0) (fun _ => 0) (fun _ => 0)) (fun i wt => wt = pf_w1 i) 30 (fun _ => 0) rfl ?_ ?_
  · intro n wt hw
    subst hw
    exact br_t xt_30 (nm_e (nm_e h))
  · intro n i wt hi hw hn
    subst hw
    exact br_f (xt_in30 hi) ⟨vp_in_nI hi (by decide), nm_r (e' := pf_w1 (i + 1)) (by rw [nI_clamp (by omega), pf_w1_s]) (nm_r (nI_1 i) (hn _ rfl))⟩
theorem i_vc0 : wpX_init (fun u => wpY_init (fun v => i_Rel 0 u v)) := by
  obtain ⟨c1, c16, m1, m16⟩ := pf_1
  have i0 : ∀ i, i < pf_cn 1 → i = 0 := by intro i hi; rw [c1] at hi; omega
  have hc : pf_cn 1 ≤ 4 := by rw [c1]; decide
  have ec : pf_cn 1 = pf_cn 16 := c1.trans c16.symm
  have hsr : ∀ i, i < pf_cn 1 → upd (fun _ => 0) 0 0 i = nI (pf_m 1 i) := by
    intro i hi
    rw [i0 i hi, m1, pk_us]; rfl
  have hgr : ∀ i, i < pf_cn 1 → upd (fun _ => 0) 0 4 i = nI (pf_m 16 i) := by
    intro i hi
    rw [i0 i hi, m16, pk_us]; rfl
  have hgl : ∀ i, i < pf_cn 1 → upd (fun _ => 0) 0 29 i = nI (25 + pf_m 16 i) := by
    intro i hi
    rw [i0 i hi, m16, pk_us]; rfl
  have e1 : (1 : Int32) = nI (pf_cn 1) := by rw [c1]; rfl
  refine xt_init ?_
  rw [e1]
  refine xt_listAnew (bl := 0) (c := pf_cn 1) (s := pf_m 1) (g := pf_m 16) (by decide) hc (pf_hs (by decide) hc) (fun i hi => pf_m5 16 (by decide) i (by omega)) hsr hgr (pf_L490 0 1 16 (by decide) (by decide) ec hc) (fun pl' pn' fp' fc' hF => ?_)
  refine yt_init ?_
  rw [e1]
  exact pf_mkRel (bl := 0) (A := 1) (B := 16) ⟨by decide, by decide, by decide, by decide, ec, hc, hsr, hgr, pf_LXF (by decide) (by decide) (by decide) hc hF, fun x _ => by rw [Nat.zero_testBit]; rfl, hsr, hgl⟩ (Or.inl ⟨rfl, rfl, rfl⟩)
