/-! Y's table of ways, its sizes and ends -/
section
variable {ct gn rk lo : Int32} {bk wt st gl wk ow tr tk kp ko : Nat → Int32}
theorem yt_69 {post : Int32 → SY → Prop} {J : Int32 → (Nat → Int32) → (Nat → Int32) → (Nat → Int32) → (Nat → Int32) → (Nat → Int32) → (Nat → Int32) → (Nat → Int32) → (Nat → Int32) → (Nat → Int32) → (Nat → Int32) → (Nat → Int32) → Prop} {wy : Nat → Int32} {x1 x2 : Int32} {bl s x v : Nat} (hb : pf_bk bl bk) (hx : x < 30)
    (hw : ∀ y, y < x → wy y = nI (pf_wv bl s y)) (hv : wy x = nI v) (e : (if bl.testBit x = true then 0 else v) = pf_wv bl s x)
    (h : ∀ wy' : Nat → Int32, (∀ y, y < x + 1 → wy' y = nI (pf_wv bl s y)) → J (nI (x + 1)) bk wt st gl wk ow tr tk wy' kp ko) : wY_ways_69 post J x1 x2 (nI x) ct gn rk lo bk wt st gl wk ow tr tk wy kp ko := by
  have cx : (nI x).toNatClampNeg = x := nI_clamp (by omega)
  have vx : vp_in (nI x) 30 := vp_in_nI hx (by decide)
  have eb : bk (nI x).toNatClampNeg = 0 ↔ ¬ bl.testBit x = true := by rw [cx]; exact yt_bit hb hx
  by_cases h1 : bl.testBit x = true
  · rw [if_pos h1] at e
    refine ⟨vx, br_f (fun z => eb.mp z h1) ⟨vx, nm_r (e' := upd wy x 0) (by rw [cx]) (nm_r (nI_1 x) (h _ ?_))⟩⟩
    intro y hy
    by_cases ey : y = x
    · subst ey
      rw [pk_us, ← e]; rfl
    · rw [pk_un ey]; exact hw y (by omega)
  · rw [if_neg h1] at e
    refine ⟨vx, br_t (eb.mpr h1) (nm_r (nI_1 x) (h _ ?_))⟩
    intro y hy
    by_cases ey : y = x
    · subst ey
      rw [← e]; exact hv
    · exact hw y (by omega)
theorem yt_46 {post : Int32 → SY → Prop} {J : Int32 → (Nat → Int32) → (Nat → Int32) → (Nat → Int32) → (Nat → Int32) → (Nat → Int32) → (Nat → Int32) → (Nat → Int32) → (Nat → Int32) → (Nat → Int32) → (Nat → Int32) → (Nat → Int32) → Prop} {wy : Nat → Int32} {x1 x2 : Int32} {bl s x v : Nat} (hb : pf_bk bl bk) (hx : x < 30)
    (hw : ∀ y, y < x → wy y = nI (pf_wv bl s y)) (hv : wy x = nI v) (e : (if bl.testBit x = true then 0 else v + (if 0 < x % 5 then pf_wv bl s (x - 1) else 0)) = pf_wv bl s x)
    (h : ∀ wy' : Nat → Int32, (∀ y, y < x + 1 → wy' y = nI (pf_wv bl s y)) → J (nI (x + 1)) bk wt st gl wk ow tr tk wy' kp ko) : wY_ways_46 post J x1 x2 (nI x) ct gn rk lo bk wt st gl wk ow tr tk wy kp ko := by
  have cx : (nI x).toNatClampNeg = x := nI_clamp (by omega)
  have vx : vp_in (nI x) 30 := vp_in_nI hx (by decide)
  refine ⟨by decide, ?_⟩
  rw [show nI x - nI x / 5 * 5 = nI (x % 5) from pk_rem (d := 5) (by omega) (by decide) (by decide)]
  refine pk_le (x % 5) 0 (fun h0 => ?_) (fun h0 => ?_) rfl rfl (by omega) (by omega)
  · rw [if_neg (show ¬ 0 < x % 5 by omega), Nat.add_zero] at e
    exact yt_69 hb hx hw hv e h
  · rw [if_pos h0] at e
    have e1 : nI x - 1 = nI (x - 1) := pk_sub (b := 1) (by omega)
    have c1 : (nI (x - 1)).toNatClampNeg = x - 1 := nI_clamp (by omega)
    refine ⟨vx, by rw [e1]; exact vp_in_nI (by omega) (by decide), vx, nm_r (e' := upd wy x (nI (v + pf_wv bl s (x - 1)))) (by rw [e1, c1, cx, hv, hw (x - 1) (by omega), nI_add]) (yt_69 hb hx ?_ pk_us e h)⟩
    intro y hy
    rw [pk_un (by omega)]
    exact hw y hy
theorem yt_23 {post : Int32 → SY → Prop} {J : Int32 → (Nat → Int32) → (Nat → Int32) → (Nat → Int32) → (Nat → Int32) → (Nat → Int32) → (Nat → Int32) → (Nat → Int32) → (Nat → Int32) → (Nat → Int32) → (Nat → Int32) → (Nat → Int32) → Prop} {wy : Nat → Int32} {x1 x2 : Int32} {bl s x z : Nat} (hb : pf_bk bl bk) (hs : s < 5) (hx : x < 30)
    (hw : ∀ y, y < x → wy y = nI (pf_wv bl s y)) (ez : z = if x = s then 1 else 0)
    (h : ∀ wy' : Nat → Int32, (∀ y, y < x + 1 → wy' y = nI (pf_wv bl s y)) → J (nI (x + 1)) bk wt st gl wk ow tr tk wy' kp ko) : wY_ways_23 post J x1 x2 (nI x) (nI z) (nI x) ct gn rk lo bk wt st gl wk ow tr tk wy kp ko := by
  have cx : (nI x).toNatClampNeg = x := nI_clamp (by omega)
  have vx : vp_in (nI x) 30 := vp_in_nI hx (by decide)
  have e := (pf_wv_rec bl s x hs).symm
  rw [← ez] at e
  refine ⟨vx, nm_r (e' := upd wy x (nI z)) (by rw [cx]) ?_⟩
  have hw1 : ∀ y, y < x → upd wy x (nI z) y = nI (pf_wv bl s y) := by
    intro y hy
    rw [pk_un (by omega)]
    exact hw y hy
  refine pk_lt x 5 (fun h5 => ?_) (fun h5 => ?_) rfl rfl (by omega) (by omega)
  · rw [if_neg (show ¬ 5 ≤ x by omega), Nat.add_zero] at e
    exact yt_46 hb hx hw1 pk_us e h
  · rw [if_pos h5] at e
    have e5 : nI x - 5 = nI (x - 5) := pk_sub (b := 5) h5
    have c5 : (nI (x - 5)).toNatClampNeg = x - 5 := nI_clamp (by omega)
    refine ⟨vx, by rw [e5]; exact vp_in_nI (by omega) (by decide), vx, nm_r (e' := upd (upd wy x (nI z)) x (nI (z + pf_wv bl s (x - 5)))) (by rw [e5, c5, cx, pk_us, hw1 (x - 5) (by omega), nI_add]) (yt_46 hb hx ?_ pk_us e h)⟩
    intro y hy
    rw [pk_un (by omega)]
    exact hw1 y hy
theorem yt_ways {post : Int32 → SY → Prop} {wy : Nat → Int32} {bl s x : Nat} (hb : pf_bk bl bk) (hs : s < 5) (hx : x < 30) (h : ∀ wy', post (nI (pf_wv bl s x)) (ct, gn, rk, lo, bk, wt, st, gl, wk, ow, tr, tk, wy', kp, ko)) : wpY_ways post (ct, gn, rk, lo, bk, wt, st, gl, wk, ow, tr, tk, wy, kp, ko) (nI s) (nI x) := by
  have cx : (nI x).toNatClampNeg = x := nI_clamp (by omega)
  refine loop_0 (fun n i (wy : Nat → Int32) => wY_ways_2 post (nI s) (nI x) ct gn rk lo n (nI i) bk wt st gl wk ow tr tk wy kp ko) (fun i wy => ∀ y, y < i → wy y = nI (pf_wv bl s y)) 30 wy (fun y hy => absurd hy (Nat.not_lt_zero _)) ?_ ?_
  · intro n wy hw
    refine br_t xt_30 ⟨vp_in_nI hx (by decide), ?_⟩
    rw [cx, hw x hx]
    exact h wy
  · intro n i wy hi hw hn
    refine br_f (xt_in30 hi) (pk_eq i s (fun e => ?_) (fun e => ?_) rfl rfl (by omega) (by omega))
    · exact yt_23 (z := 1) hb hs hi hw (by rw [if_pos e]) (fun wy' hw' => hn wy' hw')
    · exact yt_23 (z := 0) hb hs hi hw (by rw [if_neg e]) (fun wy' hw' => hn wy' hw')
theorem yt_size {post : Int32 → Prop} {wy : Nat → Int32} {m : Nat} (hm : m < 2 ^ 31) (h : post (nI (pf_pb m 5))) : wpY_size post (ct, gn, rk, lo, bk, wt, st, gl, wk, ow, tr, tk, wy, kp, ko) (nI m) := by
  refine loop_0 (fun n i (s : Int32) => wY_size_4 post (nI m) ct gn rk lo bk wt st gl wk ow tr tk wy kp ko n s (nI i)) (fun i s => s = nI (pf_pb m i)) 5 0 rfl ?_ ?_
  · intro n s hs
    subst hs
    exact br_t (nI_le (a := 5) (b := 5) (Nat.le_refl _) (by decide)) h
  · intro n i s hi hs hn
    subst hs
    refine br_f (nI_ge (b := 5) hi (by decide)) (nm_r (e' := nI (pf_pb m (i + 1))) ?_ (nm_r (nI_1 i) (hn _ rfl)))
    rw [pf_bit hm (by omega), nI_add]
    rfl
end
/-! the rows of a set, one by one -/
def pf_lr (A r : Nat) : List Nat := (List.range r).filter (fun r => A.testBit r)
theorem pf_lr_s (A r : Nat) : pf_lr A (r + 1) = if A.testBit r = true then pf_lr A r ++ [r] else pf_lr A r := by
  rw [pf_lr, List.range_succ, List.filter_append]
  by_cases h : A.testBit r = true
  · rw [if_pos h]; simp [pf_lr, h]
  · rw [if_neg h]; simp [pf_lr, h]
theorem pf_lr_len (A : Nat) : ∀ r k, (pf_lr A r).length ≤ (pf_lr A (r + k)).length := by
  intro r k
  induction k with
  | zero => exact Nat.le_refl _
  | succ k ih =>
    rw [← Nat.add_assoc, pf_lr_s]
    by_cases h : A.testBit (r + k) = true
    · rw [if_pos h, List.length_append]; omega
    · rw [if_neg h]; exact ih
theorem pf_lr_room {A r : Nat} (hr : r < 5) (hA : pf_cn A ≤ 4) (h : A.testBit r = true) : (pf_lr A r).length < 4 := by
  have h1 := pf_lr_len A (r + 1) (5 - (r + 1))
  rw [show r + 1 + (5 - (r + 1)) = 5 by omega, pf_lr_s, if_pos h, List.length_append] at h1
  have h2 : (pf_lr A 5).length = pf_cn A := rfl
  have h3 : [r].length = 1 := rfl
  omega
def pf_rw (f : Nat → Nat) (l : List Nat) (a : Nat → Int32) : Prop := ∀ k, k < l.length → a k = nI (f (l.getD k 0))
theorem pf_rw_s {f : Nat → Nat} {l : List Nat} {a : Nat → Int32} (h : pf_rw f l a) (r : Nat) : pf_rw f (l ++ [r]) (upd a l.length (nI (f r))) := by
  intro k hk
  rw [List.length_append] at hk
  have hk' : k < l.length + 1 := hk
  by_cases e : k = l.length
  · subst e
    rw [pk_us, List.getD_eq_getElem?_getD, List.getElem?_append_right (Nat.le_refl _), Nat.sub_self]
    rfl
  · rw [pk_un e, h k (by omega), List.getD_eq_getElem?_getD, List.getD_eq_getElem?_getD, List.getElem?_append_left (by omega)]
section
variable {ct gn rk lo : Int32} {bk wt wk ow tr tk wy kp ko : Nat → Int32}
theorem yt_88 {post : Int32 → SY → Prop} {J : Int32 → Int32 → Int32 → (Nat → Int32) → (Nat → Int32) → (Nat → Int32) → (Nat → Int32) → (Nat → Int32) → (Nat → Int32) → (Nat → Int32) → (Nat → Int32) → (Nat → Int32) → (Nat → Int32) → (Nat → Int32) → Prop} {st gl : Nat → Int32} {x1 x3 x4 : Int32} {B r : Nat} (hB : B < 32) (hc : pf_cn B ≤ 4) (hr : r < 5)
    (hg : pf_rw (fun x => 25 + x) (pf_lr B r) gl)
    (h : ∀ gl' : Nat → Int32, pf_rw (fun x => 25 + x) (pf_lr B (r + 1)) gl' → J x4 (nI (pf_lr B (r + 1)).length) (nI (r + 1)) bk wt st gl' wk ow tr tk wy kp ko) : wY_ends_88 post J x1 (nI B) x3 x4 (nI (pf_lr B r).length) (nI r) ct gn rk lo bk wt st gl wk ow tr tk wy kp ko := by
  have hB2 : B < 2 ^ 31 := by omega
  rw [pf_lr_s] at h
  by_cases hb : B.testBit r = true
  · rw [if_pos hb] at h
    have room := pf_lr_room hr hc hb
    have cl : (nI (pf_lr B r).length).toNatClampNeg = (pf_lr B r).length := nI_clamp (by omega)
    have hl : (pf_lr B r ++ [r]).length = (pf_lr B r).length + 1 := by rw [List.length_append]; rfl
    rw [hl] at h
    exact br_t (xt_b1 hB2 (by omega) hb) ⟨vp_in_nI room (by decide), nm_r (e' := upd gl (pf_lr B r).length (nI (25 + r))) (by rw [cl, show (25 : Int32) + nI r = nI (25 + r) from nI_add 25 r]) (nm_r (nI_1 _) (nm_r (nI_1 r) (h _ (pf_rw_s hg r))))⟩
  · rw [if_neg hb] at h
    exact br_f (xt_b0 hB2 (by omega) hb) (nm_r (nI_1 r) (h gl hg))
theorem yt_60 {post : Int32 → SY → Prop} {x3 : Int32} {A B : Nat} (hA : A < 32) (hB : B < 32) (hcA : pf_cn A ≤ 4) (hcB : pf_cn B ≤ 4)
    (h : ∀ st' gl', pf_rw (fun x => x) (pf_lr A 5) st' → pf_rw (fun x => 25 + x) (pf_lr B 5) gl' → post x3 (ct, gn, -4, 0, bk, wt, st', gl', wk, ow, tr, tk, wy, kp, ko)) :
    ∀ (e r : Nat) (st gl : Nat → Int32), r + e = 5 → pf_rw (fun x => x) (pf_lr A r) st → pf_rw (fun x => 25 + x) (pf_lr B r) gl →
      wY_ends_60 post (nI A) (nI B) x3 ct gn rk lo (e + 1) (nI (pf_lr A r).length) (nI (pf_lr B r).length) (nI r) bk wt st gl wk ow tr tk wy kp ko := by
  have hA2 : A < 2 ^ 31 := by omega
  intro e
  induction e with
  | zero =>
    intro r st gl hr hs hg
    have er : r = 5 := by omega
    subst er
    exact br_t (nI_le (a := 5) (b := 5) (Nat.le_refl _) (by decide)) (h st gl hs hg)
  | succ e ih =>
    intro r st gl hr hs hg
    have hr5 : r < 5 := by omega
    refine br_f (nI_ge (b := 5) hr5 (by decide)) ?_
    have es := pf_lr_s A r
    by_cases ha : A.testBit r = true
    · rw [if_pos ha] at es
      have room := pf_lr_room hr5 hcA ha
      have cl : (nI (pf_lr A r).length).toNatClampNeg = (pf_lr A r).length := nI_clamp (by omega)
      have hl : (pf_lr A (r + 1)).length = (pf_lr A r).length + 1 := by rw [es, List.length_append]; rfl
      refine br_t (xt_b1 hA2 (by omega) ha) ⟨vp_in_nI room (by decide), nm_r (e' := upd st (pf_lr A r).length (nI r)) (by rw [cl]) (nm_r (e' := nI (pf_lr A (r + 1)).length) (by rw [hl, nI_1]) (yt_88 hB hcB hr5 hg (fun gl' hg' => ih (r + 1) _ gl' (by omega) ?_ hg')))⟩
      rw [es]
      exact pf_rw_s hs r
    · rw [if_neg ha] at es
      refine br_f (xt_b0 hA2 (by omega) ha) (yt_88 hB hcB hr5 hg (fun gl' hg' => ?_))
      have := ih (r + 1) st gl' (by omega) (by rw [es]; exact hs) hg'
      rw [es] at this
      exact this
end
