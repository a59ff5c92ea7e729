/-! X's small methods -/
theorem xt_in30 {i : Nat} (h : i < 30) : ¬ (30 : Int32) ≤ nI i := nI_ge (b := 30) h (by decide)
theorem xt_30 : (30 : Int32) ≤ nI 30 := nI_le (a := 30) (b := 30) (Nat.le_refl _) (by decide)
theorem xt_b1 {m j : Nat} (hm : m < 2 ^ 31) (hj : j < 30) (hb : m.testBit j = true) : ((nI m >>> (nI j &&& 31)) &&& 1) = 1 := by
  rw [pf_bit hm (by omega), pf_tb, if_pos hb]; rfl
theorem xt_b0 {m j : Nat} (hm : m < 2 ^ 31) (hj : j < 30) (hb : ¬ m.testBit j = true) : ¬ ((nI m >>> (nI j &&& 31)) &&& 1) = 1 := by
  rw [pf_bit hm (by omega), pf_tb, if_neg hb]; decide
theorem xt_countBits {post : Int32 → Prop} {m : Nat} (hm : m < 2 ^ 31) (h : post (nI (pf_pb m 30))) : wpX_countBits post (nI m) := by
  refine loop_0 (fun n i (s : Int32) => wX_countBits_4 post (nI m) n s (nI i)) (fun i s => s = nI (pf_pb m i)) 30 0 rfl ?_ ?_
  · intro n s hs
    subst hs
    exact br_t xt_30 h
  · intro n i s hi hs hn
    subst hs
    refine br_f (xt_in30 hi) (nm_r (e' := nI (pf_pb m (i + 1))) ?_ (nm_r (nI_1 i) (hn _ rfl)))
    rw [pf_bit hm (by omega), nI_add]
    rfl
theorem xt_member_l {post : Int32 → Prop} {m : Nat} (hm : m < 2 ^ 31) (k : Int32) : ∀ (e j d : Nat) (l : List Nat), j + e = 30 → l.Pairwise (fun a b => a < b) → (∀ x, x ∈ l → j ≤ x ∧ x < 30) → (∀ x, j ≤ x → x < 30 → (m.testBit x = true ↔ x ∈ l)) → post (pf_sel k l d) → wX_member_4 post (nI m) k (e + 1) (nI d) (nI j) := by
  intro e
  induction e with
  | zero =>
    intro j d l hj _ hl _ h
    have ej : j = 30 := by omega
    subst ej
    cases l with
    | nil => exact br_t xt_30 h
    | cons x l =>
      have := hl x (List.mem_cons_self ..)
      omega
  | succ e ih =>
    intro j d l hj hp hl hm2 h
    have hj30 : j < 30 := by omega
    by_cases hb : m.testBit j = true
    · have hjl := (hm2 j (Nat.le_refl _) hj30).mp hb
      cases l with
      | nil => simp at hjl
      | cons x l =>
        rw [List.pairwise_cons] at hp
        have hx : x = j := by
          rcases List.mem_cons.mp hjl with e1 | e1
          · exact e1.symm
          · have h1 := hp.1 j e1
            have h2 := (hl x (List.mem_cons_self ..)).1
            omega
        subst hx
        rw [pf_sel] at h
        by_cases hk : nI d = k
        · rw [if_pos hk] at h
          exact br_f (xt_in30 hj30) (br_t (xt_b1 hm hj30 hb) (br_t hk h))
        · rw [if_neg hk] at h
          refine br_f (xt_in30 hj30) (br_t (xt_b1 hm hj30 hb) (br_f hk (nm_r (nI_1 d) (nm_r (nI_1 x) ?_))))
          refine ih (x + 1) (d + 1) l (by omega) hp.2 (fun y hy => ?_) (fun y hy hy2 => ?_) h
          · exact ⟨hp.1 y hy, (hl y (List.mem_cons_of_mem _ hy)).2⟩
          · rw [hm2 y (by omega) hy2, List.mem_cons]
            exact ⟨fun z => z.resolve_left (by omega), Or.inr⟩
    · refine br_f (xt_in30 hj30) (br_f (xt_b0 hm hj30 hb) (nm_r (nI_1 j) ?_))
      have hnl : j ∉ l := fun z => hb ((hm2 j (Nat.le_refl _) hj30).mpr z)
      refine ih (j + 1) d l (by omega) hp (fun y hy => ?_) (fun y hy hy2 => hm2 y (by omega) hy2) h
      have h1 := hl y hy
      have h2 : y ≠ j := fun z => hnl (z ▸ hy)
      exact ⟨by omega, h1.2⟩
theorem xt_member {post : Int32 → Prop} {k : Int32} (l : List Nat) (hl : l.Pairwise (fun a b => a < b)) (hb : ∀ x, x ∈ l → x < 30) (h : post (pf_sel k l 0)) : wpX_member post (nI (pf_mask l)) k := by
  refine ⟨31, xt_member_l (m := pf_mask l) (by have := pf_mask_lt l hb; omega) k 30 0 0 l rfl hl (fun x hx => ⟨Nat.zero_le _, hb x hx⟩) (fun x _ _ => ?_) h⟩
  rw [pf_mask_bit, decide_eq_true_iff]
theorem xt_isCell_t {post : Int32 → Prop} {x : Nat} (hx : x < 30) (h : post 1) : wpX_isCell post (nI x) :=
  br_f (nI_pos (by omega)) (br_f (xt_in30 hx) h)
theorem xt_isCell_f {post : Int32 → Prop} {p : Int32} (hp : p < 0 ∨ 30 ≤ p) (h : post 0) : wpX_isCell post p :=
  br_c (fun _ => h) (fun hn => br_t (hp.resolve_left hn) h)
section
variable {bc ec fn ld : Int32} {wt sr gr pl pn fp fc : Nat → Int32}
theorem xt_weightOf {post : Int32 → Prop} {m : Nat} (hm : m < 2 ^ 31) (h : post (pf_xp wt m 30)) : wpX_weightOf post (bc, ec, fn, ld, wt, sr, gr, pl, pn, fp, fc) (nI m) := by
  refine loop_0 (fun n i (s : Int32) => wX_weightOf_4 post (nI m) bc ec fn ld wt sr gr pl pn fp fc n s (nI i)) (fun i s => s = pf_xp wt m i) 30 1 rfl ?_ ?_
  · intro n s hs
    subst hs
    exact br_t xt_30 h
  · intro n i s hi hs hn
    subst hs
    by_cases hb : m.testBit i = true
    · refine br_f (xt_in30 hi) (br_t (xt_b1 hm hi hb) ⟨vp_in_nI hi (by decide), nm_r (e' := pf_xp wt m (i + 1)) ?_ (nm_r (nI_1 i) (hn _ rfl))⟩)
      rw [nI_clamp (by omega), pf_xp, if_pos hb]
    · refine br_f (xt_in30 hi) (br_f (xt_b0 hm hi hb) (nm_r (nI_1 i) (hn _ ?_)))
      rw [pf_xp, if_neg hb]
theorem xt_isEnd_t {post : Int32 → Prop} {x c : Nat} (hc : c ≤ 4) (hx : x < c) (h : post 1) : wpX_isEnd post (bc, nI c, fn, ld, wt, sr, gr, pl, pn, fp, fc) (nI x) :=
  br_f (nI_pos (by omega)) (br_f (nI_ge hx (by omega)) h)
theorem xt_isEnd_f {post : Int32 → Prop} {p : Int32} (hp : p < 0 ∨ ec ≤ p) (h : post 0) : wpX_isEnd post (bc, ec, fn, ld, wt, sr, gr, pl, pn, fp, fc) p :=
  br_c (fun _ => h) (fun hn => br_t (hp.resolve_left hn) h)
theorem xt_codeCount {post : Int32 → Prop} {d : Nat} (hd : d < 5) (h : post (nI (2 ^ (5 + d)))) : wpX_codeCount post (nI d) := by
  refine br_t (nI_pos' (by omega)) ?_
  rw [show (5 : Int32) + nI d = nI (5 + d) from nI_add 5 d, pf_one (by omega)]
  exact h
theorem xt_freePath_l {post : Int32 → Prop} {bl s d q : Nat} (hs : s + d < 5) (hbl : bl < 2 ^ 30) (hA : pf_A s (5 + d) q < 30) (h : post (nI (if pf_C s (5 + d) q &&& bl = 0 then pf_C s (5 + d) q else 0))) (hq : q < 2 ^ (5 + d)) :
    ∀ r m, m + r = 5 + d → wX_freePath_26 post (nI q) (nI bl) ec fn ld wt sr gr pl pn fp fc (r + 1) (nI (pf_A s m (q / 2 ^ r))) (nI (pf_C s m (q / 2 ^ r))) (nI r - 1) := by
  have hq2 : q < 2 ^ 31 := Nat.lt_of_lt_of_le hq (Nat.pow_le_pow_right (by decide) (by omega))
  intro r
  induction r with
  | zero =>
    intro m hm
    rw [Nat.pow_zero, Nat.div_one]
    have em : m = 5 + d := by omega
    subst em
    have hC := pf_C_lt s (5 + d) q hA
    have hCb : pf_C s (5 + d) q &&& bl < 2 ^ 30 := Nat.lt_of_le_of_lt Nat.and_le_left hC
    refine br_t (by decide) ?_
    rw [nx_and]
    by_cases h0 : pf_C s (5 + d) q &&& bl = 0
    · rw [if_pos h0] at h
      exact br_t (by rw [h0]; rfl) h
    · rw [if_neg h0] at h
      exact br_f (nI_ne0 (by omega) (by omega)) h
  | succ r ih =>
    intro m hm
    have hmono := pf_A_mono s r (m + 1) q
    rw [show m + 1 + r = 5 + d by omega] at hmono
    have eA : pf_A s (m + 1) (q / 2 ^ r) = pf_A s m (q / 2 ^ (r + 1)) + (if q / 2 ^ r % 2 = 1 then 1 else 5) := by
      rw [pf_A, pf_dd]
    have eC : pf_C s (m + 1) (q / 2 ^ r) = pf_C s m (q / 2 ^ (r + 1)) ||| 2 ^ pf_A s (m + 1) (q / 2 ^ r) := by
      rw [pf_C, eA, pf_dd]
    have next : ∀ z : Nat, pf_A s (m + 1) (q / 2 ^ r) = pf_A s m (q / 2 ^ (r + 1)) + z →
        wX_freePath_48 post (wX_freePath_26 post (nI q) (nI bl) ec fn ld wt sr gr pl pn fp fc (r + 1)) (nI q) (nI (pf_C s m (q / 2 ^ (r + 1)))) (nI r) (nI z) (nI (pf_A s m (q / 2 ^ (r + 1)))) (nI bl) ec fn ld wt sr gr pl pn fp fc := by
      intro z ez
      refine nm_r (e' := nI (pf_A s (m + 1) (q / 2 ^ r))) (by rw [nI_add, ez]) (nm_r (e' := nI (pf_C s (m + 1) (q / 2 ^ r))) ?_ (nm_r (e' := nI r - 1) (Int32.sub_eq_add_neg (nI r) 1).symm (ih (m + 1) (by omega))))
      rw [pf_one (by omega), pf_or, ← eC]
    rw [nI_pred]
    refine br_f (nI_pos (by omega)) ?_
    rw [pf_bit hq2 (by omega)]
    by_cases hb : q / 2 ^ r % 2 = 1
    · rw [if_pos hb] at eA
      exact br_t (by rw [hb]; rfl) (next 1 eA)
    · rw [if_neg hb] at eA
      exact br_f (by rw [show q / 2 ^ r % 2 = 0 by omega]; decide) (next 5 eA)
theorem xt_freePath {post : Int32 → Prop} {bl s d q : Nat} (hs : s + d < 5) (hbl : bl < 2 ^ 30) (hq : q < 2 ^ (5 + d)) (h : post (nI (pf_fp bl s d q))) : wpX_freePath post (nI bl, ec, fn, ld, wt, sr, gr, pl, pn, fp, fc) (nI s) (nI d) (nI q) := by
  have hq2 : q < 2 ^ 31 := Nat.lt_of_lt_of_le hq (Nat.pow_le_pow_right (by decide) (by omega))
  have hpc := pf_pb30 (n := 5 + d) (by omega) hq
  have hle := pf_pc_le (5 + d) q
  refine xt_countBits hq2 ?_
  rw [pf_fp] at h
  refine pk_eq (pf_pb q 30) d (fun e => ?_) (fun e => ?_) rfl rfl (by omega) (by omega)
  · rw [if_pos e] at h
    have hA : pf_A s (5 + d) q < 30 := by rw [pf_A_eq, ← hpc, e]; omega
    refine nm_r (e' := nI (2 ^ s)) (pf_one (by omega)) (nm_r (e' := nI (5 + d) - 1) (by rw [← nI_add]; rfl) ⟨5 + d + 1, ?_⟩)
    have := xt_freePath_l (post := post) hs hbl hA h hq (5 + d) 0 (by omega) (ec := ec) (fn := fn) (ld := ld) (wt := wt) (sr := sr) (gr := gr) (pl := pl) (pn := pn) (fp := fp) (fc := fc)
    exact this
  · rw [if_neg e] at h
    exact h
end
