section ZXA
/-! the class's small methods -/
theorem zx_ix (t p : Nat) : nI t * 24 + nI p = nI (t * 24 + p) := by
  rw [show (24 : Int32) = nI 24 from rfl, pk_mul, nI_add]
theorem zx_get {post : Int32 → Prop} {N l v : Int32} {c : Nat → Int32} (t p : Nat) (ht : t < 6) (hp : p < 24) (e : c (t * 24 + p) = v) (h : post v) : wpX_get post (N, l, c) (nI t) (nI p) := by
  unfold wpX_get
  dsimp only
  rw [zx_ix, nI_clamp (by omega), e]
  exact ⟨vp_in_nI (by omega) (by omega), h⟩
theorem zx_put {post : St2 → Prop} {N l v : Int32} {c : Nat → Int32} (t p : Nat) (ht : t < 6) (hp : p < 24) (h : post (N, l, upd c (t * 24 + p) v)) : wpX_put post (N, l, c) (nI t) (nI p) v := by
  unfold wpX_put
  dsimp only
  rw [zx_ix, nI_clamp (by omega)]
  exact ⟨vp_in_nI (by omega) (by omega), nm_e h⟩
theorem zx_ip1 {post : Int32 → Prop} {l : Int32} {c : Nat → Int32} {n p : Nat} (hp : p < n) (hn : n ≤ 24) (h : post 1) : wpX_isPath post (nI n, l, c) (nI p) := by
  unfold wpX_isPath
  dsimp only
  exact br_f (nI_pos (by omega)) (br_f (nI_ge hp (by omega)) h)
theorem zx_ip0 {post : Int32 → Prop} {l : Int32} {c : Nat → Int32} {n : Nat} {x : Int32} (hx : x < 0 ∨ nI n ≤ x) (h : post 0) : wpX_isPath post (nI n, l, c) x := by
  unfold wpX_isPath
  dsimp only
  by_cases e : x < 0
  · exact br_t e h
  · exact br_f e (br_t (hx.resolve_left e) h)
theorem zx_it1 {post : Int32 → Prop} {t : Nat} (ht : t < 4) (h : post 1) : wpX_isTree post () (nI t) := by
  unfold wpX_isTree
  exact br_f (nI_pos (by omega)) (br_f (nI_nlt (a := 3) (b := t) (by omega) (by decide)) h)
theorem zx_it0 {post : Int32 → Prop} {x : Int32} (hx : x < 0 ∨ 3 < x) (h : post 0) : wpX_isTree post () x := by
  unfold wpX_isTree
  by_cases e : x < 0
  · exact br_t e h
  · exact br_f e (br_t (hx.resolve_left e) h)
theorem zx_q4 {x : Nat} (h : 4 ≤ x) (hx : x < 24) : nI x / 4 - 1 = nI (x / 4 - 1) := by
  rw [show (4 : Int32) = nI 4 from rfl, pk_div (by omega) (by omega) (by omega), show (1 : Int32) = nI 1 from rfl, pk_sub (by omega)]
theorem zx_ab4 {post : Int32 → Prop} {a : Nat} (ha : a < 24) : ∀ d s x, s + d = 24 → x < 24 → post (zk_b (zk_up a d x)) → wX_isAbove_4 post (nI a) (d + 1) (nI x) (nI s) := by
  intro d
  induction d with
  | zero =>
    intro s x hs hx h
    exact br_t (nI_le (a := 24) (b := s) (by omega) (by omega)) h
  | succ d ih =>
    intro s x hs hx h
    refine br_f (nI_ge (b := 24) (a := s) (by omega) (by decide)) ?_
    by_cases h4 : x < 4
    · rw [zk_up, if_pos h4] at h
      exact br_t (nI_lt (b := 4) h4 (by decide)) h
    · rw [zk_up, if_neg h4] at h
      refine br_f (nI_nlt (a := x) (b := 4) (by omega) (by omega)) ⟨by decide, nm_r (zx_q4 (by omega) hx) (pk_eq (x / 4 - 1) a (fun e => ?_) (fun e => nm_r (nI_1 s) (ih (s + 1) (x / 4 - 1) (by omega) (by omega) ?_)))⟩
      · rw [if_pos e] at h
        exact h
      · rw [if_neg e] at h
        exact h
theorem zx_ab {post : Int32 → Prop} (a p : Nat) (ha : a < 24) (hp : p < 24) (h : post (zk_b (zk_an a p))) : wpX_isAbove post () (nI a) (nI p) := by
  unfold wpX_isAbove
  refine ⟨25, zx_ab4 ha 24 0 p rfl hp ?_⟩
  rw [zk_an24 a ha p hp]
  exact h
theorem zx_fa2 {post : Int32 → Prop} {N l : Int32} {c : Nat → Int32} (t p : Nat) (ht : t < 6) (hp : p < 24) : ∀ d i, i + d = p → post (zk_b (zk_any (zk_ga (fun q => c (t * 24 + q)) p) d i)) → wX_hasFileAbove_2 post (nI t) (nI p) N l c (d + 1) (nI i) := by
  intro d
  induction d with
  | zero =>
    intro i hi h
    exact br_t (nI_le (a := p) (b := i) (by omega) (by omega)) h
  | succ d ih =>
    intro i hi h
    refine br_f (nI_ge (a := i) (b := p) (by omega) (by omega)) (zx_get t i ht (by omega) rfl ?_)
    by_cases z : c (t * 24 + i) = 0
    · rw [zk_any, zk_ga0 (f := fun q => c (t * 24 + q)) z, Bool.false_or] at h
      exact br_t z (nm_r (nI_1 i) (ih (i + 1) (by omega) h))
    · rw [zk_any, zk_ga1 (f := fun q => c (t * 24 + q)) z] at h
      refine br_f z (zx_ab i p (by omega) hp ?_)
      cases e : zk_an i p with
      | false =>
        rw [e, Bool.false_or] at h
        exact br_t rfl (nm_r (nI_1 i) (ih (i + 1) (by omega) h))
      | true =>
        rw [e, Bool.true_or] at h
        exact br_f (by decide) h
theorem zx_fa {post : Int32 → Prop} {l : Int32} {n : Nat} {c : Nat → Int32} (t p : Nat) (ht : t < 6) (hp : p < n) (hn : n ≤ 24) (h : post (zk_b (zk_fa n (fun q => c (t * 24 + q)) p))) : wpX_hasFileAbove post (nI n, l, c) (nI t) (nI p) := by
  unfold wpX_hasFileAbove
  dsimp only
  refine ⟨p + 1, zx_fa2 t p ht (by omega) p 0 (by omega) ?_⟩
  rw [zk_fa_x hp hn]
  exact h
theorem zx_fb4 {post : Int32 → Prop} {l : Int32} {n : Nat} {c : Nat → Int32} (t p : Nat) (ht : t < 6) (hp : p < 24) (hn : n ≤ 24) : ∀ d i, i + d = n → post (zk_b (zk_any (zk_gb (fun q => c (t * 24 + q)) p) d i)) → wX_hasFileBelow_4 post (nI t) (nI p) (nI n) l c (d + 1) (nI i) := by
  intro d
  induction d with
  | zero =>
    intro i hi h
    exact br_t (nI_le (a := n) (b := i) (by omega) (by omega)) h
  | succ d ih =>
    intro i hi h
    refine br_f (nI_ge (a := i) (b := n) (by omega) (by omega)) (zx_get t i ht (by omega) rfl ?_)
    by_cases z : c (t * 24 + i) = 0
    · rw [zk_any, zk_gb0 (f := fun q => c (t * 24 + q)) z, Bool.false_or] at h
      exact br_t z (nm_r (nI_1 i) (ih (i + 1) (by omega) h))
    · rw [zk_any, zk_gb1 (f := fun q => c (t * 24 + q)) z] at h
      refine br_f z (zx_ab p i hp (by omega) ?_)
      cases e : zk_an p i with
      | false =>
        rw [e, Bool.false_or] at h
        exact br_t rfl (nm_r (nI_1 i) (ih (i + 1) (by omega) h))
      | true =>
        rw [e, Bool.true_or] at h
        exact br_f (by decide) h
theorem zx_fb {post : Int32 → Prop} {l : Int32} {n : Nat} {c : Nat → Int32} (t p : Nat) (ht : t < 6) (hp : p < n) (hn : n ≤ 24) (h : post (zk_b (zk_fb n (fun q => c (t * 24 + q)) p))) : wpX_hasFileBelow post (nI n, l, c) (nI t) (nI p) := by
  unfold wpX_hasFileBelow
  dsimp only
  refine nm_r (nI_1 p) ⟨n - (p + 1) + 1, zx_fb4 t p ht (by omega) hn (n - (p + 1)) (p + 1) (by omega) ?_⟩
  rw [zk_fb_x hp hn]
  exact h
end ZXA
section ZXB
/-! write, setTarget, delete -/
theorem zx_write {post : Int32 → St2 → Prop} {l y : Int32} {n p : Nat} {c : Nat → Int32} (hp : p < n) (hn : n ≤ 24) (h : post (zk_b (zk_wo n (fun q => c (2 * 24 + q)) p y)) (nI n, l, cond (zk_wo n (fun q => c (2 * 24 + q)) p y) (upd c (2 * 24 + p) y) c)) : wpX_write post (nI n, l, c) (nI p) y := by
  unfold wpX_write
  dsimp only
  refine zx_ip1 hp hn (br_f (by decide) ?_)
  unfold zk_wo at h
  by_cases h1 : y < 1
  · rw [if_pos h1] at h
    exact br_t h1 h
  · rw [if_neg h1] at h
    refine br_f h1 ?_
    by_cases h2 : y ≤ 1000
    · rw [if_pos h2] at h
      refine br_t h2 (zx_fa 2 p (by omega) hp hn ?_)
      cases ea : zk_fa n (fun q => c (2 * 24 + q)) p with
      | true =>
        rw [ea] at h
        exact br_f (by decide) h
      | false =>
        refine br_t rfl (zx_fb 2 p (by omega) hp hn ?_)
        cases eb : zk_fb n (fun q => c (2 * 24 + q)) p with
        | true =>
          rw [ea, eb] at h
          exact br_f (by decide) h
        | false =>
          rw [ea, eb] at h
          exact br_t rfl (zx_put 2 p (by omega) (by omega) h)
    · rw [if_neg h2] at h
      exact br_f h2 h
theorem zx_write0 {post : Int32 → St2 → Prop} {l x y : Int32} {n : Nat} {c : Nat → Int32} (hx : x < 0 ∨ nI n ≤ x) (h : post 0 (nI n, l, c)) : wpX_write post (nI n, l, c) x y := by
  unfold wpX_write
  dsimp only
  exact zx_ip0 hx (br_t rfl h)
theorem zx_setTarget {post : Int32 → St2 → Prop} {l y : Int32} {n p : Nat} {c : Nat → Int32} (hp : p < n) (hn : n ≤ 24) (h : post (zk_b (zk_to n (fun q => c (3 * 24 + q)) p y)) (nI n, l, cond (zk_to n (fun q => c (3 * 24 + q)) p y) (upd c (3 * 24 + p) y) c)) : wpX_setTarget post (nI n, l, c) (nI p) y := by
  unfold wpX_setTarget
  dsimp only
  refine zx_ip1 hp hn (br_f (by decide) ?_)
  unfold zk_to at h
  by_cases h1 : y < 0
  · rw [if_pos h1] at h
    exact br_t h1 h
  · rw [if_neg h1] at h
    refine br_f h1 ?_
    by_cases h2 : y ≤ 1000
    · rw [if_pos h2] at h
      refine br_t h2 ?_
      by_cases h3 : y = 0
      · rw [if_pos h3] at h
        refine br_t h3 ?_
        unfold wX_setTarget_45
        exact zx_put 3 p (by omega) (by omega) h
      · rw [if_neg h3] at h
        refine br_f h3 (zx_fa 3 p (by omega) hp hn ?_)
        cases ea : zk_fa n (fun q => c (3 * 24 + q)) p with
        | true =>
          rw [ea] at h
          exact br_f (by decide) h
        | false =>
          refine br_t rfl (zx_fb 3 p (by omega) hp hn ?_)
          cases eb : zk_fb n (fun q => c (3 * 24 + q)) p with
          | true =>
            rw [ea, eb] at h
            exact br_f (by decide) h
          | false =>
            rw [ea, eb] at h
            refine br_t rfl ?_
            unfold wX_setTarget_45
            exact zx_put 3 p (by omega) (by omega) h
    · rw [if_neg h2] at h
      exact br_f h2 h
theorem zx_setTarget0 {post : Int32 → St2 → Prop} {l x y : Int32} {n : Nat} {c : Nat → Int32} (hx : x < 0 ∨ nI n ≤ x) (h : post 0 (nI n, l, c)) : wpX_setTarget post (nI n, l, c) x y := by
  unfold wpX_setTarget
  dsimp only
  exact zx_ip0 hx (br_t rfl h)
theorem zx_del35 {post : Int32 → St2 → Prop} {J : Int32 → Int32 → Int32 → Int32 → (Nat → Int32) → Prop} {N l : Int32} {c : Nat → Int32} {p i r : Nat} (hi : i < 24) (hm : i = p ∨ zk_an p i = true)
    (h0 : c (2 * 24 + i) = 0 → J (nI r) (nI (i + 1)) N l (zk_rw (2 * 24) (zk_dF p (fun q => c (2 * 24 + q))) c (i + 1)))
    (h1 : ¬ c (2 * 24 + i) = 0 → J (nI (r + 1)) (nI (i + 1)) N l (zk_rw (2 * 24) (zk_dF p (fun q => c (2 * 24 + q))) c (i + 1))) :
    wX_delete_35 post J (nI p) (nI r) (nI i) N l (zk_rw (2 * 24) (zk_dF p (fun q => c (2 * 24 + q))) c i) := by
  unfold wX_delete_35
  refine zx_get 2 i (by omega) hi (zk_rw_out (by omega)) ?_
  by_cases z : c (2 * 24 + i) = 0
  · refine br_t z (nm_r (nI_1 i) ?_)
    rw [zk_rw_st (zk_dF_0 (f := fun q => c (2 * 24 + q)) z)]
    exact h0 z
  · refine br_f z (zx_put 2 i (by omega) hi ?_)
    rw [zk_rw_up rfl (zk_dF_t hm).symm]
    exact nm_r (nI_1 r) (nm_r (nI_1 i) (h1 z))
theorem zx_del14 {post : Int32 → St2 → Prop} {l : Int32} {n p : Nat} {c : Nat → Int32} (hp : p < 24) (hn : n ≤ 24) : ∀ d i r, p ≤ i → i + d = n → post (nI (r + zk_cn (zk_dg p (fun q => c (2 * 24 + q))) d i)) (nI n, l, zk_rw (2 * 24) (zk_dF p (fun q => c (2 * 24 + q))) c n) → wX_delete_14 post (nI p) (d + 1) (nI r) (nI i) (nI n) l (zk_rw (2 * 24) (zk_dF p (fun q => c (2 * 24 + q))) c i) := by
  intro d
  induction d with
  | zero =>
    intro i r _ hi h
    have e : i = n := by omega
    subst e
    exact br_t (nI_le (Nat.le_refl i) (by omega)) h
  | succ d ih =>
    intro i r hpi hi h
    have body : (i = p ∨ zk_an p i = true) → wX_delete_35 post (wX_delete_14 post (nI p) (d + 1)) (nI p) (nI r) (nI i) (nI n) l (zk_rw (2 * 24) (zk_dF p (fun q => c (2 * 24 + q))) c i) := by
      intro hm
      refine zx_del35 (by omega) hm (fun z => ih (i + 1) r (by omega) (by omega) ?_) (fun z => ih (i + 1) (r + 1) (by omega) (by omega) ?_)
      · rw [zk_cn_f (zk_dg_0 (f := fun q => c (2 * 24 + q)) z)] at h
        exact h
      · rw [zk_cn_t (zk_dg_t (f := fun q => c (2 * 24 + q)) hm z), ← Nat.add_assoc] at h
        exact h
    refine br_f (nI_ge (a := i) (b := n) (by omega) (by omega)) (pk_eq i p (fun e => body (Or.inl e)) (fun ne => zx_ab p i hp (by omega) ?_))
    cases e : zk_an p i with
    | false =>
      have hm : ¬ (i = p ∨ zk_an p i = true) := by
        rintro (z | z)
        · exact ne z
        · rw [e] at z
          exact absurd z (by decide)
      refine br_t rfl (nm_r (nI_1 i) ?_)
      rw [zk_rw_st (zk_dF_n (f := fun q => c (2 * 24 + q)) hm)]
      rw [zk_cn_f (zk_dg_n (f := fun q => c (2 * 24 + q)) hm)] at h
      exact ih (i + 1) r (by omega) (by omega) h
    | true => exact br_f (by decide) (body (Or.inr e))
theorem zx_delete {post : Int32 → St2 → Prop} {l : Int32} {n p : Nat} {c : Nat → Int32} (hp : p < n) (hn : n ≤ 24) (h : post (nI (zk_cn (zk_dg p (fun q => c (2 * 24 + q))) n 0)) (nI n, l, zk_rw (2 * 24) (zk_dF p (fun q => c (2 * 24 + q))) c n)) : wpX_delete post (nI n, l, c) (nI p) := by
  unfold wpX_delete
  dsimp only
  refine zx_ip1 hp hn (br_f (by decide) ⟨n - p + 1, ?_⟩)
  have e : zk_rw (2 * 24) (zk_dF p (fun q => c (2 * 24 + q))) c p = c := zk_rw_id (fun q hq => zk_dF_n (f := fun q => c (2 * 24 + q)) (zk_nan (by omega) hq))
  have k := zx_del14 (post := post) (l := l) (n := n) (p := p) (c := c) (by omega) hn (n - p) p 0 (Nat.le_refl p) (by omega) (by
    have s := zk_cn_skip (g := zk_dg p (fun q => c (2 * 24 + q))) p (n - p) 0 (fun q _ hq => zk_dg_n (zk_nan (by omega) (by omega)))
    rw [show n - p + p = n from by omega, Nat.zero_add] at s
    rw [Nat.zero_add, ← s]
    exact h)
  rw [e] at k
  exact k
theorem zx_delete0 {post : Int32 → St2 → Prop} {l x : Int32} {n : Nat} {c : Nat → Int32} (hx : x < 0 ∨ nI n ≤ x) (h : post (-1) (nI n, l, c)) : wpX_delete post (nI n, l, c) x := by
  unfold wpX_delete
  dsimp only
  exact zx_ip0 hx (br_t rfl h)
end ZXB
