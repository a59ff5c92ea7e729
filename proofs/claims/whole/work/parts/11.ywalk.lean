/-! Y's walker -/
theorem yt_b1 : vp_nar .boolean 1 = 1 := rfl
theorem yt_b0 : vp_nar .boolean 0 = 0 := rfl
theorem yt_bit {x bl : Nat} {b : Nat → Int32} (h : pf_bk bl b) (hx : x < 30) : (b x = 0 ↔ ¬ bl.testBit x = true) := by
  rw [h x hx]
  by_cases hb : bl.testBit x = true
  · rw [if_pos hb]; exact ⟨fun z => absurd z (by decide), fun z => absurd hb z⟩
  · rw [if_neg hb]; exact ⟨fun _ => hb, fun _ => rfl⟩
theorem yt_tbit {x : Nat} {S : List (Nat × Nat × Nat)} {b : Nat → Int32} (h : pf_tk S b) (hx : x < 30) : (b x = 0 ↔ ¬ (pf_ms (pf_st S)).testBit x = true) := by
  rw [h x hx]
  by_cases hb : (pf_ms (pf_st S)).testBit x = true
  · rw [if_pos hb]; exact ⟨fun z => absurd z (by decide), fun z => absurd hb z⟩
  · rw [if_neg hb]; exact ⟨fun _ => hb, fun _ => rfl⟩
theorem yt_tk_push {x i : Nat} {S : List (Nat × Nat × Nat)} {tk : Nat → Int32} (h : pf_tk S tk) : pf_tk ((x, i, 0) :: S) (upd tk x 1) := by
  intro y hy
  show upd tk x 1 y = if (2 ^ x ||| pf_ms (pf_st S)).testBit y = true then 1 else 0
  rw [Nat.testBit_or, Nat.testBit_two_pow]
  by_cases e : y = x
  · subst e
    rw [pk_us, decide_eq_true rfl, Bool.true_or, if_pos rfl]
  · rw [pk_un e, decide_eq_false (fun z => e z.symm), Bool.false_or]
    exact h y hy
theorem yt_tk_t {p q : Nat × Nat × Nat} {S : List (Nat × Nat × Nat)} {tk : Nat → Int32} (h : pf_tk (p :: S) tk) (e : p.1 = q.1) : pf_tk (q :: S) tk := by
  intro y hy
  have := h y hy
  have e2 : pf_ms (pf_st (p :: S)) = pf_ms (pf_st (q :: S)) := by
    show 2 ^ p.1 ||| pf_ms (pf_st S) = 2 ^ q.1 ||| pf_ms (pf_st S)
    rw [e]
  rw [e2] at this
  exact this
theorem yt_tk_pop {c x i t : Nat} {S : List (Nat × Nat × Nat)} {tk : Nat → Int32} (hk : pf_Ok c ((x, i, t) :: S)) (h : pf_tk ((x, i, t) :: S) tk) : pf_tk S (upd tk x 0) := by
  intro y hy
  have h2 := hk.2.1
  rw [List.map_cons, List.nodup_cons] at h2
  by_cases e : y = x
  · subst e
    rw [pk_us, pf_st_bit, decide_eq_false h2.1]
    rfl
  · rw [pk_un e, h y hy]
    show (if (2 ^ x ||| pf_ms (pf_st S)).testBit y = true then (1 : Int32) else 0) = _
    rw [Nat.testBit_or, Nat.testBit_two_pow, decide_eq_false (fun z => e z.symm), Bool.false_or]
section
variable {ct gn rk lo : Int32} {bk wt st gl wy kp ko : Nat → Int32}
theorem yt_step {post : SY → Prop} {wk ow tr tk : Nat → Int32} {bl x i : Nat} {S : List (Nat × Nat × Nat)} (hb : pf_bk bl bk) (ht : pf_tk S tk) (hr : pf_rep wk ow tr S) (hS : S.length < 40) (hx : x < 30)
    (h : ∀ wk' ow' tr' tk', pf_rep wk' ow' tr' (pf_step bl x i S) → pf_tk (pf_step bl x i S) tk' → post (ct, nI (pf_step bl x i S).length, rk, lo, bk, wt, st, gl, wk', ow', tr', tk', wy, kp, ko)) : wpY_step post (ct, nI S.length, rk, lo, bk, wt, st, gl, wk, ow, tr, tk, wy, kp, ko) (nI x) (nI i) := by
  have cx : (nI x).toNatClampNeg = x := nI_clamp (by omega)
  have vx : vp_in (nI x) 30 := vp_in_nI hx (by decide)
  have cg : (nI S.length).toNatClampNeg = S.length := nI_clamp (by omega)
  have vg : vp_in (nI S.length) 40 := vp_in_nI hS (by decide)
  have eb : bk (nI x).toNatClampNeg = 0 ↔ ¬ bl.testBit x = true := by rw [cx]; exact yt_bit hb hx
  have et : tk (nI x).toNatClampNeg = 0 ↔ ¬ (pf_ms (pf_st S)).testBit x = true := by rw [cx]; exact yt_tbit ht hx
  rw [pf_step] at h
  by_cases h1 : bl.testBit x = true
  · rw [if_pos (Or.inl h1)] at h
    exact ⟨vx, br_f (fun z => eb.mp z h1) (h wk ow tr tk hr ht)⟩
  · by_cases h2 : (pf_ms (pf_st S)).testBit x = true
    · rw [if_pos (Or.inr h2)] at h
      exact ⟨vx, br_t (eb.mpr h1) ⟨vx, br_f (fun z => et.mp z h2) (h wk ow tr tk hr ht)⟩⟩
    · rw [if_neg (fun z => z.elim h1 h2)] at h
      refine ⟨vx, br_t (eb.mpr h1) ⟨vx, br_t (et.mpr h2) ⟨vg, nm_r (e' := upd wk S.length (nI x)) (by rw [cg]) ⟨vg, nm_r (e' := upd ow S.length (nI i)) (by rw [cg]) ⟨vg, nm_r (e' := upd tr S.length (nI 0)) (by rw [cg]; rfl) ⟨vx, nm_r (e' := upd tk x 1) (by rw [cx, yt_b1]) (nm_r (nI_1 S.length) (h _ _ _ _ ?_ (yt_tk_push ht)))⟩⟩⟩⟩⟩⟩
      refine ⟨pk_us, pk_us, pk_us, pf_rep_fr S ?_ hr⟩
      intro k hk
      exact ⟨pk_un (by omega), pk_un (by omega), pk_un (by omega)⟩
theorem yt_goOn {post : SY → Prop} {wk ow tr tk : Nat → Int32} {bl c : Nat} {s g : Nat → Nat} {S : List (Nat × Nat × Nat)} (hc : c ≤ 4) (hs : ∀ i, i < c → s i < 5) (hg : ∀ i, i < c → g i < 5) (hst : ∀ i, i < c → st i = nI (s i)) (hgl : ∀ i, i < c → gl i = nI (25 + g i))
    (hb : pf_bk bl bk) (ht : pf_tk S tk) (hr : pf_rep wk ow tr S) (hk : pf_Ok c S) (hS : S ≠ [])
    (h : ∀ wk' ow' tr' tk', pf_rep wk' ow' tr' (pf_go bl s g c S) → pf_tk (pf_go bl s g c S) tk' → post (nI c, nI (pf_go bl s g c S).length, rk, lo, bk, wt, st, gl, wk', ow', tr', tk', wy, kp, ko)) : wpY_goOn post (nI c, nI S.length, rk, lo, bk, wt, st, gl, wk, ow, tr, tk, wy, kp, ko) := by
  cases S with
  | nil => exact absurd rfl hS
  | cons p S =>
    obtain ⟨x, i, t⟩ := p
    have hlen := pf_Ok_len hk
    have hlen' : S.length + 1 ≤ 30 := hlen
    have hp := hk.2.2 _ (List.mem_cons_self ..)
    have hx : x < 30 := hp.1
    have hi : i < c := hp.2.1
    have ht2 : t ≤ 2 := hp.2.2
    have hgi := hg i hi
    obtain ⟨r1, r2, r3, r4⟩ := hr
    have r1' : wk S.length = nI x := r1
    have r2' : ow S.length = nI i := r2
    have r3' : tr S.length = nI t := r3
    have eg : nI ((x, i, t) :: S).length - 1 = nI S.length := nI_pred S.length
    have cg : (nI S.length).toNatClampNeg = S.length := nI_clamp (by omega)
    have vg : vp_in (nI S.length) 40 := vp_in_nI (by omega) (by decide)
    have ci : (nI i).toNatClampNeg = i := nI_clamp (by omega)
    have vi : vp_in (nI i) 4 := vp_in_nI (by omega) (by decide)
    have egl : gl (nI i).toNatClampNeg = nI (25 + g i) := by rw [ci]; exact hgl i hi
    have n5 : ¬ (5 : Int32) = 0 := by decide
    have hrep : pf_rep wk ow (upd tr S.length (nI (t + 1))) ((x, i, t + 1) :: S) := by
      refine ⟨r1', r2', pk_us, pf_rep_fr S ?_ r4⟩
      intro k hk'
      exact ⟨rfl, rfl, pk_un (by omega)⟩
    have htk : pf_tk ((x, i, t + 1) :: S) tk := yt_tk_t ht rfl
    have hl1 : ((x, i, t + 1) :: S).length = S.length + 1 := rfl
    have hl0 : ((x, i, t) :: S).length = S.length + 1 := rfl
    rw [pf_go] at h
    refine ⟨by rw [eg]; exact vg, nm_r (e' := nI x) (by rw [eg, cg]; exact r1') ⟨by rw [eg]; exact vg, nm_r (e' := nI i) (by rw [eg, cg]; exact r2') ⟨by rw [eg]; exact vg, nm_r (e' := nI t) (by rw [eg, cg]; exact r3') ⟨by rw [eg]; exact vg, nm_r (e' := upd tr S.length (nI (t + 1))) (by rw [eg, cg, nI_1]) ?_⟩⟩⟩⟩
    refine pk_eq t 2 (fun e2 => ?_) (fun e2 => ?_) rfl rfl (by omega) (by omega)
    · rw [if_pos e2] at h
      refine nm_r eg ⟨vg, ?_⟩
      have cw : (wk (nI S.length).toNatClampNeg) = nI x := by rw [cg]; exact r1'
      have cx : (nI x).toNatClampNeg = x := nI_clamp (by omega)
      refine ⟨by rw [cw]; exact vp_in_nI hx (by decide), nm_r (e' := upd tk x 0) (by rw [cw, cx, yt_b0]) (h wk ow _ _ ?_ (yt_tk_pop hk ht))⟩
      exact hrep.2.2.2
    · rw [if_neg e2] at h
      refine ⟨vi, ?_⟩
      rw [egl]
      refine pk_eq x (25 + g i) (fun eG => ?_) (fun eG => ?_) rfl rfl (by omega) (by omega)
      · rw [if_pos eG] at h
        refine pk_eq t 0 (fun e0 => ?_) (fun e0 => ?_) rfl rfl (by omega) (by omega)
        · rw [nI_1]
          refine pk_le c (i + 1) (fun hci => ?_) (fun hci => ?_) rfl rfl (by omega) (by omega)
          · rw [if_neg (fun z => absurd z.2 (by omega))] at h
            exact h wk ow _ tk hrep htk
          · rw [if_pos ⟨e0, hci⟩] at h
            have ci1 : (nI (i + 1)).toNatClampNeg = i + 1 := nI_clamp (by omega)
            have es : st (nI (i + 1)).toNatClampNeg = nI (s (i + 1)) := by rw [ci1]; exact hst (i + 1) hci
            refine ⟨vp_in_nI (by omega) (by decide), ?_⟩
            rw [es]
            exact yt_step (S := (x, i, t + 1) :: S) hb htk hrep (by omega) (by have := hs (i + 1) hci; omega) h
        · rw [if_neg (fun z => e0 z.1)] at h
          exact h wk ow _ tk hrep htk
      · rw [if_neg eG] at h
        refine pk_eq t 0 (fun e0 => ?_) (fun e0 => ?_) rfl rfl (by omega) (by omega)
        · rw [if_pos e0] at h
          refine pk_le 25 x (fun h25 => ?_) (fun h25 => ?_) rfl rfl (by omega) (by omega)
          · rw [if_neg (by omega)] at h
            exact h wk ow _ tk hrep htk
          · rw [if_pos h25] at h
            rw [show nI x + 5 = nI (x + 5) from nI_add x 5]
            exact yt_step (S := (x, i, t + 1) :: S) hb htk hrep (by omega) (by omega) h
        · rw [if_neg e0] at h
          refine ⟨n5, vi, n5, ?_⟩
          rw [show nI (25 + g i) - nI (25 + g i) / 5 * 5 = nI ((25 + g i) % 5) from pk_rem (d := 5) (by omega) (by decide) (by decide), show nI x - nI x / 5 * 5 = nI (x % 5) from pk_rem (d := 5) (by omega) (by decide) (by decide)]
          refine pk_le ((25 + g i) % 5) (x % 5) (fun h5 => ?_) (fun h5 => ?_) rfl rfl (by omega) (by omega)
          · rw [if_neg (by omega)] at h
            exact h wk ow _ tk hrep htk
          · rw [if_pos h5] at h
            rw [nI_1]
            exact yt_step (S := (x, i, t + 1) :: S) hb htk hrep (by omega) (by omega) h
theorem yt_complete {post : Int32 → Prop} {wk ow tr tk : Nat → Int32} {c : Nat} {g : Nat → Nat} {S : List (Nat × Nat × Nat)} (hc0 : 0 < c) (hc : c ≤ 4) (hg : ∀ i, i < c → g i < 5) (hgl : ∀ i, i < c → gl i = nI (25 + g i))
    (hr : pf_rep wk ow tr S) (hk : pf_Ok c S) (hS : S ≠ []) (h1 : pf_cm g c S → post 1) (h0 : ¬ pf_cm g c S → post 0) : wpY_complete post (nI c, nI S.length, rk, lo, bk, wt, st, gl, wk, ow, tr, tk, wy, kp, ko) := by
  cases S with
  | nil => exact absurd rfl hS
  | cons p S =>
    obtain ⟨x, i, t⟩ := p
    have hlen := pf_Ok_len hk
    have hlen' : S.length + 1 ≤ 30 := hlen
    have hp := hk.2.2 _ (List.mem_cons_self ..)
    have hx : x < 30 := hp.1
    have hi : i < c := hp.2.1
    have ht2 : t ≤ 2 := hp.2.2
    have hgi := hg (c - 1) (by omega)
    obtain ⟨r1, r2, r3, r4⟩ := hr
    have r1' : wk S.length = nI x := r1
    have r2' : ow S.length = nI i := r2
    have r3' : tr S.length = nI t := r3
    have eg : nI ((x, i, t) :: S).length - 1 = nI S.length := nI_pred S.length
    have ec : nI c - 1 = nI (c - 1) := pk_sub (b := 1) hc0
    have cg : (nI S.length).toNatClampNeg = S.length := nI_clamp (by omega)
    have vg : vp_in (nI S.length) 40 := vp_in_nI (by omega) (by decide)
    have cc : (nI (c - 1)).toNatClampNeg = c - 1 := nI_clamp (by omega)
    have hgc := hgl (c - 1) (by omega)
    unfold wpY_complete
    dsimp only
    rw [eg, ec, cg, cc, r1', r2', r3', hgc]
    refine ⟨vg, vp_in_nI (by omega) (by decide), ?_⟩
    refine pk_eq x (25 + g (c - 1)) (fun e1 => ⟨vg, ?_⟩) (fun e1 => h0 (fun z => e1 z.1)) rfl rfl (by omega) (by omega)
    refine pk_eq i (c - 1) (fun e2 => ⟨vg, ?_⟩) (fun e2 => h0 (fun z => e2 z.2.1)) rfl rfl (by omega) (by omega)
    exact pk_eq t 0 (fun e3 => h1 ⟨e1, e2, e3⟩) (fun e3 => h0 (fun z => e3 z.2.2)) rfl rfl (by omega) (by omega)
/-- where a call of nextFamily leaves the walker, when the walks of L are still to come -/
def pf_At (bl : Nat) (s g : Nat → Nat) (c : Nat) (L : List (List (Nat × Nat))) (r : Int32) (gn : Int32) (wk ow tr tk : Nat → Int32) : Prop :=
  (r = 0 ∧ L = []) ∨ (r = 1 ∧ ∃ S L', L = pf_st S :: L' ∧ pf_Ok c S ∧ S ≠ [] ∧ gn = nI S.length ∧ pf_rep wk ow tr S ∧ pf_tk S tk ∧ pf_T bl s g c (pf_go bl s g c S) L')
theorem yt_next_l {post : Int32 → SY → Prop} {bl c : Nat} {s g : Nat → Nat} (hc0 : 0 < c) (hc : c ≤ 4) (hs : ∀ i, i < c → s i < 5) (hg : ∀ i, i < c → g i < 5) (hst : ∀ i, i < c → st i = nI (s i)) (hgl : ∀ i, i < c → gl i = nI (25 + g i)) (hb : pf_bk bl bk)
    {L : List (List (Nat × Nat))} (h : ∀ r gn' wk' ow' tr' tk', pf_At bl s g c L r gn' wk' ow' tr' tk' → post r (nI c, gn', rk, lo, bk, wt, st, gl, wk', ow', tr', tk', wy, kp, ko)) :
    ∀ (n : Nat) (S : List (Nat × Nat × Nat)) (wk ow tr tk : Nat → Int32), pf_Tr bl s g c n S L → pf_Ok c S → pf_rep wk ow tr S → pf_tk S tk → wY_nextFamily_8 post n (nI c) (nI S.length) rk lo bk wt st gl wk ow tr tk wy kp ko := by
  intro n
  induction n with
  | zero => intro S wk ow tr tk hT; exact absurd hT (fun z => z)
  | succ n ih =>
    intro S wk ow tr tk hT hk hr ht
    rcases hT with ⟨e1, e2⟩ | ⟨hS, hcm, L', eL, hT⟩ | ⟨hS, hcm, hT⟩
    · subst e1
      exact br_t (by decide) (h 0 _ wk ow tr tk (Or.inl ⟨rfl, e2⟩))
    · have hpos : 0 < S.length := List.length_pos_iff.mpr hS
      have hlen := pf_Ok_len hk
      refine br_f (nI_nle hpos (by omega)) (yt_complete hc0 hc hg hgl hr hk hS (fun _ => br_f (by decide) (h 1 _ wk ow tr tk (Or.inr ⟨rfl, S, L', eL, hk, hS, rfl, hr, ht, n, hT⟩))) (fun z => absurd hcm z))
    · have hpos : 0 < S.length := List.length_pos_iff.mpr hS
      have hlen := pf_Ok_len hk
      refine br_f (nI_nle hpos (by omega)) (yt_complete hc0 hc hg hgl hr hk hS (fun z => absurd z hcm) (fun _ => br_t rfl (yt_goOn hc hs hg hst hgl hb ht hr hk hS (fun wk' ow' tr' tk' hr' ht' => ih _ wk' ow' tr' tk' hT (pf_Ok_go hs hg hk) hr' ht'))))
theorem yt_next0 {post : Int32 → SY → Prop} {wk ow tr tk : Nat → Int32} {bl c : Nat} {s g : Nat → Nat} (hc0 : 0 < c) (hc : c ≤ 4) (hs : ∀ i, i < c → s i < 5) (hg : ∀ i, i < c → g i < 5) (hst : ∀ i, i < c → st i = nI (s i)) (hgl : ∀ i, i < c → gl i = nI (25 + g i)) (hb : pf_bk bl bk)
    {L : List (List (Nat × Nat))} {S : List (Nat × Nat × Nat)} (hT : pf_T bl s g c (pf_go bl s g c S) L) (hk : pf_Ok c S) (hS : S ≠ []) (hr : pf_rep wk ow tr S) (ht : pf_tk S tk)
    (h : ∀ r gn' wk' ow' tr' tk', pf_At bl s g c L r gn' wk' ow' tr' tk' → post r (nI c, gn', rk, lo, bk, wt, st, gl, wk', ow', tr', tk', wy, kp, ko)) : wpY_nextFamily post (nI c, nI S.length, rk, lo, bk, wt, st, gl, wk, ow, tr, tk, wy, kp, ko) 0 := by
  obtain ⟨n, hn⟩ := hT
  exact br_t rfl (yt_goOn hc hs hg hst hgl hb ht hr hk hS (fun wk' ow' tr' tk' hr' ht' => ⟨n, yt_next_l hc0 hc hs hg hst hgl hb h n _ wk' ow' tr' tk' hn (pf_Ok_go hs hg hk) hr' ht'⟩))
theorem yt_next1 {post : Int32 → SY → Prop} {wk ow tr tk : Nat → Int32} {bl c : Nat} {s g : Nat → Nat} (hc0 : 0 < c) (hc : c ≤ 4) (hs : ∀ i, i < c → s i < 5) (hg : ∀ i, i < c → g i < 5) (hst : ∀ i, i < c → st i = nI (s i)) (hgl : ∀ i, i < c → gl i = nI (25 + g i)) (hb : pf_bk bl bk)
    {L : List (List (Nat × Nat))} {S : List (Nat × Nat × Nat)} (hT : pf_T bl s g c S L) (hk : pf_Ok c S) (hr : pf_rep wk ow tr S) (ht : pf_tk S tk)
    (h : ∀ r gn' wk' ow' tr' tk', pf_At bl s g c L r gn' wk' ow' tr' tk' → post r (nI c, gn', rk, lo, bk, wt, st, gl, wk', ow', tr', tk', wy, kp, ko)) : wpY_nextFamily post (nI c, nI S.length, rk, lo, bk, wt, st, gl, wk, ow, tr, tk, wy, kp, ko) 1 := by
  obtain ⟨n, hn⟩ := hT
  exact br_f (by decide) ⟨n, yt_next_l hc0 hc hs hg hst hgl hb h n S wk ow tr tk hn hk hr ht⟩
theorem yt_begin {post : SY → Prop} {wk ow tr tk : Nat → Int32} {bl c : Nat} {s : Nat → Nat} (hc0 : 0 < c) (hs : ∀ i, i < c → s i < 5) (hst : ∀ i, i < c → st i = nI (s i)) (hb : pf_bk bl bk)
    (h : ∀ wk' ow' tr' tk', pf_rep wk' ow' tr' (pf_step bl (s 0) 0 []) → pf_tk (pf_step bl (s 0) 0 []) tk' → post (ct, nI (pf_step bl (s 0) 0 []).length, rk, lo, bk, wt, st, gl, wk', ow', tr', tk', wy, kp, ko)) : wpY_begin post (ct, gn, rk, lo, bk, wt, st, gl, wk, ow, tr, tk, wy, kp, ko) := by
  have h0 := hst 0 hc0
  have h5 := hs 0 hc0
  refine loop_0 (fun n i (tk : Nat → Int32) => wY_begin_7 post ct 0 rk lo n (nI i) bk wt st gl wk ow tr tk wy kp ko) (fun i tk => ∀ x, x < i → tk x = 0) 30 tk (fun x hx => absurd hx (Nat.not_lt_zero _)) ?_ ?_
  · intro n tk htk
    refine br_t xt_30 ?_
    rw [h0]
    exact yt_step (S := []) (i := 0) hb (fun x hx => by rw [htk x hx]; show (0 : Int32) = if (0 : Nat).testBit x = true then 1 else 0; rw [Nat.zero_testBit]; rfl) trivial (by decide) (by omega) h
  · intro n i tk hi htk hn
    refine br_f (xt_in30 hi) ⟨vp_in_nI hi (by decide), nm_r (e' := upd tk i 0) (by rw [nI_clamp (by omega), yt_b0]) (nm_r (nI_1 i) (hn _ ?_))⟩
    intro x hx
    by_cases e : x = i
    · subst e; exact pk_us
    · rw [pk_un e]; exact htk x (by omega)
end
