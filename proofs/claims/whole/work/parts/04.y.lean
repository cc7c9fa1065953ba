section ZYA
/-! the reference's small methods; the state is (nI n, l, a0, .., a5) -/
def zk_tr (a0 a1 a2 a3 a4 a5 : Nat → Int32) : Nat → Nat → Int32
  | 0 => a0
  | 1 => a1
  | 2 => a2
  | 3 => a3
  | 4 => a4
  | _ => a5
theorem zy_get {post : Int32 → Prop} {v : Int32} {l : Int32} {n : Nat} {a0 a1 a2 a3 a4 a5 : Nat → Int32} (k p : Nat) (hk : k < 6) (hp : p < n) (hn : n ≤ 24) (e : zk_tr a0 a1 a2 a3 a4 a5 k p = v) (h : post v) : wpY_get post (nI n, l, a0, a1, a2, a3, a4, a5) (nI k) (nI p) := by
  unfold wpY_get
  dsimp only
  rw [nI_clamp (show p < 2 ^ 31 by omega)]
  have hi : vp_in (nI p) 24 := vp_in_nI (by omega) (by omega)
  refine br_f (nI_pos (by omega)) (br_t (nI_lt hp (by omega)) ?_)
  subst e
  match k, hk, h with
  | 0, _, h => exact br_t rfl ⟨hi, h⟩
  | 1, _, h => exact br_f (by decide) (br_t rfl ⟨hi, h⟩)
  | 2, _, h => exact br_f (by decide) (br_f (by decide) (br_t rfl ⟨hi, h⟩))
  | 3, _, h => exact br_f (by decide) (br_f (by decide) (br_f (by decide) (br_t rfl ⟨hi, h⟩)))
  | 4, _, h => exact br_f (by decide) (br_f (by decide) (br_f (by decide) (br_f (by decide) (br_t rfl ⟨hi, h⟩))))
  | 5, _, h => exact br_f (by decide) (br_f (by decide) (br_f (by decide) (br_f (by decide) (br_f (by decide) (br_t rfl ⟨hi, h⟩)))))
  | k + 6, hk, _ => exact absurd hk (by omega)
theorem zy_an19 {post : Int32 → Prop} {N l : Int32} {a0 a1 a2 a3 a4 a5 : Nat → Int32} {a : Nat} (ha : a < 24) : ∀ d s x, s + d = 8 → x < 24 → post (zk_b (zk_up a d x)) → wY_isAnc_19 post (nI a) N l a0 a1 a2 a3 a4 a5 (d + 1) (nI x) (nI s) := by
  intro d
  induction d with
  | zero =>
    intro s x hs hx h
    exact br_t (nI_le (a := 8) (b := s) (by omega) (by omega)) h
  | succ d ih =>
    intro s x hs hx h
    refine br_f (nI_ge (b := 8) (a := s) (by omega) (by decide)) ?_
    by_cases h4 : x < 4
    · rw [zk_up, if_pos h4] at h
      exact br_f (nI_ge (b := 4) (a := x) h4 (by decide)) h
    · rw [zk_up, if_neg h4] at h
      refine br_t (nI_le (a := 4) (b := x) (by omega) (by omega)) ⟨by decide, nm_r (zx_q4 (by omega) hx) (pk_eq (x / 4 - 1) a (fun e => ?_) (fun e => nm_r (nI_1 s) (ih (s + 1) (x / 4 - 1) (by omega) (by omega) ?_)))⟩
      · rw [if_pos e] at h
        exact h
      · rw [if_neg e] at h
        exact h
theorem zy_an {post : Int32 → Prop} {l : Int32} {n : Nat} {a0 a1 a2 a3 a4 a5 : Nat → Int32} (a p : Nat) (ha : a < 24) (hp : p < n) (hn : n ≤ 24) (h : post (zk_b (zk_an a p))) : wpY_isAnc post (nI n, l, a0, a1, a2, a3, a4, a5) (nI a) (nI p) := by
  unfold wpY_isAnc
  dsimp only
  exact br_f (nI_pos (by omega)) (br_t (nI_lt hp (by omega)) ⟨9, zy_an19 ha 8 0 p rfl (by omega) h⟩)
theorem zy_fa2 {post : Int32 → Prop} {l : Int32} {n : Nat} {a0 a1 a2 a3 a4 a5 : Nat → Int32} (t p : Nat) (ht : t < 6) (hp : p < n) (hn : n ≤ 24) : ∀ d i, i + d = n → post (zk_b (zk_any (zk_ga (zk_tr a0 a1 a2 a3 a4 a5 t) p) d i)) → wY_hasAncFile_2 post (nI t) (nI p) (nI n) l a0 a1 a2 a3 a4 a5 (d + 1) (nI i) := by
  intro d
  induction d with
  | zero =>
    intro i hi h
    exact br_t (nI_le (a := n) (b := i) (by omega) (by omega)) h
  | succ d ih =>
    intro i hi h
    refine br_f (nI_ge (a := i) (b := n) (by omega) (by omega)) (zy_get t i ht (by omega) hn rfl ?_)
    by_cases z : zk_tr a0 a1 a2 a3 a4 a5 t i = 0
    · rw [zk_any, zk_ga0 z, Bool.false_or] at h
      exact br_t z (nm_r (nI_1 i) (ih (i + 1) (by omega) h))
    · rw [zk_any, zk_ga1 z] at h
      refine br_f z (zy_an i p (by omega) hp hn ?_)
      cases e : zk_an i p with
      | false =>
        rw [e, Bool.false_or] at h
        exact br_t rfl (nm_r (nI_1 i) (ih (i + 1) (by omega) h))
      | true =>
        rw [e, Bool.true_or] at h
        exact br_f (by decide) h
theorem zy_fa {post : Int32 → Prop} {l : Int32} {n : Nat} {a0 a1 a2 a3 a4 a5 : Nat → Int32} {f : Nat → Int32} (t p : Nat) (ht : t < 6) (hp : p < n) (hn : n ≤ 24) (e : zk_tr a0 a1 a2 a3 a4 a5 t = f) (h : post (zk_b (zk_fa n f p))) : wpY_hasAncFile post (nI n, l, a0, a1, a2, a3, a4, a5) (nI t) (nI p) := by
  subst e
  unfold wpY_hasAncFile
  dsimp only
  exact ⟨n + 1, zy_fa2 t p ht hp hn n 0 (by omega) h⟩
theorem zy_fb2 {post : Int32 → Prop} {l : Int32} {n : Nat} {a0 a1 a2 a3 a4 a5 : Nat → Int32} (t p : Nat) (ht : t < 6) (hp : p < n) (hn : n ≤ 24) : ∀ d i, i + d = n → post (zk_b (zk_any (zk_gb (zk_tr a0 a1 a2 a3 a4 a5 t) p) d i)) → wY_hasDescFile_2 post (nI t) (nI p) (nI n) l a0 a1 a2 a3 a4 a5 (d + 1) (nI i) := by
  intro d
  induction d with
  | zero =>
    intro i hi h
    exact br_t (nI_le (a := n) (b := i) (by omega) (by omega)) h
  | succ d ih =>
    intro i hi h
    refine br_f (nI_ge (a := i) (b := n) (by omega) (by omega)) (zy_get t i ht (by omega) hn rfl ?_)
    by_cases z : zk_tr a0 a1 a2 a3 a4 a5 t i = 0
    · rw [zk_any, zk_gb0 z, Bool.false_or] at h
      exact br_t z (nm_r (nI_1 i) (ih (i + 1) (by omega) h))
    · rw [zk_any, zk_gb1 z] at h
      refine br_f z (zy_an p i (by omega) (by omega) hn ?_)
      cases e : zk_an p i with
      | false =>
        rw [e, Bool.false_or] at h
        exact br_t rfl (nm_r (nI_1 i) (ih (i + 1) (by omega) h))
      | true =>
        rw [e, Bool.true_or] at h
        exact br_f (by decide) h
theorem zy_fb {post : Int32 → Prop} {l : Int32} {n : Nat} {a0 a1 a2 a3 a4 a5 : Nat → Int32} {f : Nat → Int32} (t p : Nat) (ht : t < 6) (hp : p < n) (hn : n ≤ 24) (e : zk_tr a0 a1 a2 a3 a4 a5 t = f) (h : post (zk_b (zk_fb n f p))) : wpY_hasDescFile post (nI n, l, a0, a1, a2, a3, a4, a5) (nI t) (nI p) := by
  subst e
  unfold wpY_hasDescFile
  dsimp only
  exact ⟨n + 1, zy_fb2 t p ht hp hn n 0 (by omega) h⟩
theorem zy_no {A B : Prop} {n : Nat} {x : Int32} (hx : x < 0 ∨ nI n ≤ x) (h : B) : (x < 0 → B) ∧ (¬ x < 0 → ((x < nI n → A) ∧ (¬ x < nI n → B))) := by
  by_cases e : x < 0
  · exact br_t e h
  · exact br_f e (br_f (Int32.not_lt.mpr (hx.resolve_left e)) h)
end ZYA
section ZYB
/-! write, setTarget, delete, stage, commit, targetFromHead -/
theorem zy_write {post : Int32 → SY → Prop} {y : Int32} {l : Int32} {n : Nat} {a0 a1 a2 a3 a4 a5 : Nat → Int32} {p : Nat} (hp : p < n) (hn : n ≤ 24) (h : post (zk_b (zk_wo n a2 p y)) (nI n, l, a0, a1, cond (zk_wo n a2 p y) (upd a2 p y) a2, a3, a4, a5)) : wpY_write post (nI n, l, a0, a1, a2, a3, a4, a5) (nI p) y := by
  unfold wpY_write
  dsimp only
  rw [nI_clamp (show p < 2 ^ 31 by omega)]
  refine br_f (nI_pos (by omega)) (br_t (nI_lt hp (by omega)) ?_)
  unfold zk_wo at h
  by_cases h1 : y < 1
  · rw [if_pos h1] at h
    exact br_t h1 h
  · rw [if_neg h1] at h
    refine br_f h1 ?_
    by_cases h2 : y ≤ 1000
    · rw [if_pos h2] at h
      refine br_t h2 (zy_fa (f := a2) 2 p (by omega) hp hn rfl ?_)
      cases ea : zk_fa n a2 p with
      | true =>
        rw [ea] at h
        exact br_f (by decide) h
      | false =>
        refine br_t rfl (zy_fb (f := a2) 2 p (by omega) hp hn rfl ?_)
        cases eb : zk_fb n a2 p with
        | true =>
          rw [ea, eb] at h
          exact br_f (by decide) h
        | false =>
          rw [ea, eb] at h
          exact br_t rfl ⟨vp_in_nI (by omega) (by omega), nm_e h⟩
    · rw [if_neg h2] at h
      exact br_f h2 h
theorem zy_write0 {post : Int32 → SY → Prop} {x y : Int32} {l : Int32} {n : Nat} {a0 a1 a2 a3 a4 a5 : Nat → Int32} (hx : x < 0 ∨ nI n ≤ x) (h : post 0 (nI n, l, a0, a1, a2, a3, a4, a5)) : wpY_write post (nI n, l, a0, a1, a2, a3, a4, a5) x y := by
  unfold wpY_write
  dsimp only
  exact zy_no hx h
theorem zy_setTarget {post : Int32 → SY → Prop} {y : Int32} {l : Int32} {n : Nat} {a0 a1 a2 a3 a4 a5 : Nat → Int32} {p : Nat} (hp : p < n) (hn : n ≤ 24) (h : post (zk_b (zk_to n a3 p y)) (nI n, l, a0, a1, a2, cond (zk_to n a3 p y) (upd a3 p y) a3, a4, a5)) : wpY_setTarget post (nI n, l, a0, a1, a2, a3, a4, a5) (nI p) y := by
  unfold wpY_setTarget
  dsimp only
  rw [nI_clamp (show p < 2 ^ 31 by omega)]
  refine br_f (nI_pos (by omega)) (br_t (nI_lt hp (by omega)) ?_)
  unfold zk_to at h
  by_cases h1 : y < 0
  · rw [if_pos h1] at h
    exact br_t h1 h
  · rw [if_neg h1] at h
    refine br_f h1 ?_
    by_cases h2 : y ≤ 1000
    · rw [if_pos h2] at h
      refine br_t h2 ?_
      by_cases h3 : y = 0
      · rw [if_pos h3] at h
        exact br_t h3 ⟨vp_in_nI (by omega) (by omega), nm_e h⟩
      · rw [if_neg h3] at h
        refine br_f h3 (zy_fa (f := a3) 3 p (by omega) hp hn rfl ?_)
        cases ea : zk_fa n a3 p with
        | true =>
          rw [ea] at h
          exact br_f (by decide) h
        | false =>
          refine br_t rfl (zy_fb (f := a3) 3 p (by omega) hp hn rfl ?_)
          cases eb : zk_fb n a3 p with
          | true =>
            rw [ea, eb] at h
            exact br_f (by decide) h
          | false =>
            rw [ea, eb] at h
            exact br_t rfl ⟨vp_in_nI (by omega) (by omega), nm_e h⟩
    · rw [if_neg h2] at h
      exact br_f h2 h
theorem zy_setTarget0 {post : Int32 → SY → Prop} {x y : Int32} {l : Int32} {n : Nat} {a0 a1 a2 a3 a4 a5 : Nat → Int32} (hx : x < 0 ∨ nI n ≤ x) (h : post 0 (nI n, l, a0, a1, a2, a3, a4, a5)) : wpY_setTarget post (nI n, l, a0, a1, a2, a3, a4, a5) x y := by
  unfold wpY_setTarget
  dsimp only
  exact zy_no hx h
theorem zk_rz {F c : Nat → Int32} {i : Nat} : zk_rw 0 F c i i = c i := zk_rw_out (by omega)
theorem zy_del18 {post : Int32 → SY → Prop} {l : Int32} {n : Nat} {a0 a1 a2 a3 a4 a5 : Nat → Int32} {p : Nat} (hp : p < n) (hn : n ≤ 24) : ∀ d i r, i + d = n → post (nI (r + zk_cn (zk_dg p a2) d i)) (nI n, l, a0, a1, zk_rw 0 (zk_dF p a2) a2 n, a3, a4, a5) → wY_delete_18 post (nI p) (nI n) l (d + 1) (nI r) (nI i) a0 a1 (zk_rw 0 (zk_dF p a2) a2 i) a3 a4 a5 := by
  intro d
  induction d with
  | zero =>
    intro i r hi h
    have e : i = n := by omega
    subst e
    exact br_t (nI_le (Nat.le_refl i) (by omega)) h
  | succ d ih =>
    intro i r hi h
    have ec : zk_rw 0 (zk_dF p a2) a2 i (nI i).toNatClampNeg = a2 i := by
      rw [nI_clamp (by omega)]
      exact zk_rz
    have hv : vp_in (nI i) 24 := vp_in_nI (by omega) (by omega)
    refine br_f (nI_ge (a := i) (b := n) (by omega) (by omega)) ⟨hv, ?_⟩
    by_cases z : a2 i = 0
    · refine br_t (ec.trans z) (nm_r (nI_1 i) ?_)
      rw [zk_rw_st (show zk_dF p a2 i = a2 (0 + i) by rw [Nat.zero_add]; exact zk_dF_0 z)]
      rw [zk_cn_f (zk_dg_0 z)] at h
      exact ih (i + 1) r (by omega) h
    · refine br_f (fun z' => z (ec.symm.trans z')) ?_
      have body : (i = p ∨ zk_an p i = true) → wY_delete_49 post (wY_delete_18 post (nI p) (nI n) l (d + 1)) (nI p) (nI r) (nI i) (nI n) l a0 a1 (zk_rw 0 (zk_dF p a2) a2 i) a3 a4 a5 := by
        intro hm
        unfold wY_delete_49
        rw [nI_clamp (show i < 2 ^ 31 by omega), zk_rw_up (by omega) (zk_dF_t hm).symm]
        rw [zk_cn_t (zk_dg_t hm z), ← Nat.add_assoc] at h
        exact ⟨hv, nm_e (nm_r (nI_1 r) (nm_r (nI_1 i) (ih (i + 1) (r + 1) (by omega) h)))⟩
      refine pk_eq i p (fun e => body (Or.inl e)) (fun ne => zy_an p i (by omega) (by omega) hn ?_)
      cases e : zk_an p i with
      | false =>
        have hm : ¬ (i = p ∨ zk_an p i = true) := by
          rintro (z | z)
          · exact ne z
          · rw [e] at z
            exact absurd z (by decide)
        refine br_t rfl (nm_r (nI_1 i) ?_)
        rw [zk_rw_st (show zk_dF p a2 i = a2 (0 + i) by rw [Nat.zero_add]; exact zk_dF_n hm)]
        rw [zk_cn_f (zk_dg_n hm)] at h
        exact ih (i + 1) r (by omega) h
      | true => exact br_f (by decide) (body (Or.inr e))
theorem zy_delete {post : Int32 → SY → Prop} {l : Int32} {n : Nat} {a0 a1 a2 a3 a4 a5 : Nat → Int32} {p : Nat} (hp : p < n) (hn : n ≤ 24) (h : post (nI (zk_cn (zk_dg p a2) n 0)) (nI n, l, a0, a1, zk_rw 0 (zk_dF p a2) a2 n, a3, a4, a5)) : wpY_delete post (nI n, l, a0, a1, a2, a3, a4, a5) (nI p) := by
  unfold wpY_delete
  dsimp only
  have k := zy_del18 (post := post) (l := l) (a0 := a0) (a1 := a1) (a2 := a2) (a3 := a3) (a4 := a4) (a5 := a5) hp hn n 0 0 (by omega) (by rw [Nat.zero_add]; exact h)
  rw [zk_rw_0] at k
  exact br_f (nI_pos (by omega)) (br_t (nI_lt hp (by omega)) ⟨n + 1, k⟩)
theorem zy_delete0 {post : Int32 → SY → Prop} {x : Int32} {l : Int32} {n : Nat} {a0 a1 a2 a3 a4 a5 : Nat → Int32} (hx : x < 0 ∨ nI n ≤ x) (h : post (-1) (nI n, l, a0, a1, a2, a3, a4, a5)) : wpY_delete post (nI n, l, a0, a1, a2, a3, a4, a5) x := by
  unfold wpY_delete
  dsimp only
  exact zy_no hx h
theorem zy_st34 {post : Int32 → SY → Prop} {l : Int32} {n : Nat} {a0 a1 a2 a3 a4 a5 : Nat → Int32} {p : Nat} (hp : p < n) (hn : n ≤ 24) : ∀ d i, i + d = n → post 1 (nI n, l, a0, zk_rw 0 (zk_cF p a1) a1 n, a2, a3, a4, a5) → wY_stage_34 post (nI p) (nI n) l (d + 1) (nI i) a0 (zk_rw 0 (zk_cF p a1) a1 i) a2 a3 a4 a5 := by
  intro d
  induction d with
  | zero =>
    intro i hi h
    have e : i = n := by omega
    subst e
    exact br_t (nI_le (Nat.le_refl i) (by omega)) h
  | succ d ih =>
    intro i hi h
    have hv : vp_in (nI i) 24 := vp_in_nI (by omega) (by omega)
    have up : (zk_an i p = true ∨ zk_an p i = true) → upd (zk_rw 0 (zk_cF p a1) a1 i) (nI i).toNatClampNeg 0 = zk_rw 0 (zk_cF p a1) a1 (i + 1) := by
      intro hm
      rw [nI_clamp (show i < 2 ^ 31 by omega), zk_rw_up (by omega) (zk_cF_t hm).symm]
    refine br_f (nI_ge (a := i) (b := n) (by omega) (by omega)) (zy_an i p (by omega) hp hn ?_)
    cases e : zk_an i p with
    | true => exact br_f (by decide) ⟨hv, nm_r (up (Or.inl e)) (nm_r (nI_1 i) (ih (i + 1) (by omega) h))⟩
    | false =>
      refine br_t rfl (zy_an p i (by omega) (by omega) hn ?_)
      cases e2 : zk_an p i with
      | true => exact br_f (by decide) ⟨hv, nm_r (up (Or.inr e2)) (nm_r (nI_1 i) (ih (i + 1) (by omega) h))⟩
      | false =>
        have hm : ¬ (zk_an i p = true ∨ zk_an p i = true) := by
          rw [e, e2]
          decide
        refine br_t rfl (nm_r (nI_1 i) ?_)
        rw [zk_rw_st (show zk_cF p a1 i = a1 (0 + i) by rw [Nat.zero_add]; exact zk_cF_n hm)]
        exact ih (i + 1) (by omega) h
def zk_sy (n : Nat) (a1 a2 : Nat → Int32) (p : Nat) : Nat → Int32 :=
  if a2 p = 0 then upd a1 p (a2 p) else zk_rw 0 (zk_cF p (upd a1 p (a2 p))) (upd a1 p (a2 p)) n
theorem zy_stage {post : Int32 → SY → Prop} {l : Int32} {n : Nat} {a0 a1 a2 a3 a4 a5 : Nat → Int32} {p : Nat} (hp : p < n) (hn : n ≤ 24) (h : post 1 (nI n, l, a0, zk_sy n a1 a2 p, a2, a3, a4, a5)) : wpY_stage post (nI n, l, a0, a1, a2, a3, a4, a5) (nI p) := by
  unfold wpY_stage
  dsimp only
  rw [nI_clamp (show p < 2 ^ 31 by omega)]
  have hv : vp_in (nI p) 24 := vp_in_nI (by omega) (by omega)
  refine br_f (nI_pos (by omega)) (br_t (nI_lt hp (by omega)) ⟨hv, nm_e ⟨hv, nm_e ?_⟩⟩)
  unfold zk_sy at h
  by_cases z : a2 p = 0
  · rw [if_pos z] at h
    exact br_t z h
  · rw [if_neg z] at h
    have k := zy_st34 (post := post) (l := l) (a0 := a0) (a1 := upd a1 p (a2 p)) (a2 := a2) (a3 := a3) (a4 := a4) (a5 := a5) hp hn n 0 (by omega) h
    rw [zk_rw_0] at k
    exact br_f z ⟨n + 1, k⟩
theorem zy_stage0 {post : Int32 → SY → Prop} {x : Int32} {l : Int32} {n : Nat} {a0 a1 a2 a3 a4 a5 : Nat → Int32} (hx : x < 0 ∨ nI n ≤ x) (h : post 0 (nI n, l, a0, a1, a2, a3, a4, a5)) : wpY_stage post (nI n, l, a0, a1, a2, a3, a4, a5) x := by
  unfold wpY_stage
  dsimp only
  exact zy_no hx h
theorem zy_cm4 {post : Int32 → SY → Prop} {l : Int32} {n : Nat} {a0 a1 a2 a3 a4 a5 : Nat → Int32} (hn : n ≤ 24) : ∀ d i r, i + d = n → post (nI (r + zk_cn (zk_ne a0 a1) d i)) (nI n, l, zk_rw 0 a1 a0 n, a1, a2, a3, a4, a5) → wY_commit_4 post (nI n) l (d + 1) (nI r) (nI i) (zk_rw 0 a1 a0 i) a1 a2 a3 a4 a5 := by
  intro d
  induction d with
  | zero =>
    intro i r hi h
    have e : i = n := by omega
    subst e
    exact br_t (nI_le (Nat.le_refl i) (by omega)) h
  | succ d ih =>
    intro i r hi h
    have hv : vp_in (nI i) 24 := vp_in_nI (by omega) (by omega)
    have e1 : a1 (nI i).toNatClampNeg = a1 i := by rw [nI_clamp (by omega)]
    have e0 : zk_rw 0 a1 a0 i (nI i).toNatClampNeg = a0 i := by
      rw [nI_clamp (by omega)]
      exact zk_rz
    have up : upd (zk_rw 0 a1 a0 i) (nI i).toNatClampNeg (a1 (nI i).toNatClampNeg) = zk_rw 0 a1 a0 (i + 1) := by
      rw [nI_clamp (show i < 2 ^ 31 by omega), zk_rw_up (by omega) rfl]
    refine br_f (nI_ge (a := i) (b := n) (by omega) (by omega)) ⟨hv, hv, ?_⟩
    rw [e0, e1]
    by_cases z : a0 i = a1 i
    · rw [zk_cn_f (g := zk_ne a0 a1) (zk_nd0 z)] at h
      refine br_t z ?_
      unfold wY_commit_30
      exact ⟨hv, hv, nm_r up (nm_r (nI_1 i) (ih (i + 1) r (by omega) h))⟩
    · rw [zk_cn_t (g := zk_ne a0 a1) (zk_nd z), ← Nat.add_assoc] at h
      refine br_f z (nm_r (nI_1 r) ?_)
      unfold wY_commit_30
      exact ⟨hv, hv, nm_r up (nm_r (nI_1 i) (ih (i + 1) (r + 1) (by omega) h))⟩
theorem zy_commit {post : Int32 → SY → Prop} {l : Int32} {n : Nat} {a0 a1 a2 a3 a4 a5 : Nat → Int32} (hn : n ≤ 24) (h : post (nI (zk_cn (zk_ne a0 a1) n 0)) (nI n, l, zk_rw 0 a1 a0 n, a1, a2, a3, a4, a5)) : wpY_commit post (nI n, l, a0, a1, a2, a3, a4, a5) := by
  unfold wpY_commit
  dsimp only
  have k := zy_cm4 (post := post) (l := l) (a0 := a0) (a1 := a1) (a2 := a2) (a3 := a3) (a4 := a4) (a5 := a5) hn n 0 0 (by omega) (by rw [Nat.zero_add]; exact h)
  rw [zk_rw_0] at k
  exact ⟨n + 1, k⟩
theorem zy_th2 {post : SY → Prop} {l : Int32} {n : Nat} {a0 a1 a2 a3 a4 a5 : Nat → Int32} (hn : n ≤ 24) : ∀ d i, i + d = n → post (nI n, l, a0, a1, a2, zk_rw 0 a0 a3 n, a4, a5) → wY_targetFromHead_2 post (nI n) l (d + 1) (nI i) a0 a1 a2 (zk_rw 0 a0 a3 i) a4 a5 := by
  intro d
  induction d with
  | zero =>
    intro i hi h
    have e : i = n := by omega
    subst e
    exact br_t (nI_le (Nat.le_refl i) (by omega)) h
  | succ d ih =>
    intro i hi h
    have hv : vp_in (nI i) 24 := vp_in_nI (by omega) (by omega)
    have up : upd (zk_rw 0 a0 a3 i) (nI i).toNatClampNeg (a0 (nI i).toNatClampNeg) = zk_rw 0 a0 a3 (i + 1) := by
      rw [nI_clamp (show i < 2 ^ 31 by omega), zk_rw_up (by omega) rfl]
    exact br_f (nI_ge (a := i) (b := n) (by omega) (by omega)) ⟨hv, hv, nm_r up (nm_r (nI_1 i) (ih (i + 1) (by omega) h))⟩
theorem zy_tfh {post : SY → Prop} {l : Int32} {n : Nat} {a0 a1 a2 a3 a4 a5 : Nat → Int32} (hn : n ≤ 24) (h : post (nI n, l, a0, a1, a2, zk_rw 0 a0 a3 n, a4, a5)) : wpY_targetFromHead post (nI n, l, a0, a1, a2, a3, a4, a5) := by
  unfold wpY_targetFromHead
  dsimp only
  have k := zy_th2 (post := post) (l := l) (a0 := a0) (a1 := a1) (a2 := a2) (a3 := a3) (a4 := a4) (a5 := a5) hn n 0 (by omega) h
  rw [zk_rw_0] at k
  exact ⟨n + 1, k⟩
end ZYB
section ZYC
/-! the plans -/
theorem zy_218 {post : Int32 → SY → Prop} {J : Int32 → Prop} {l : Int32} {n : Nat} {a0 a1 a2 a3 a4 a5 : Nat → Int32} {i : Nat} {a : Bool} (ht : a = true → post 4 (nI n, nI i, a0, a1, a2, a3, a4, a5)) (hf : a = false → J (nI (i + 1))) : wY_plan_218 post J (nI i) (zk_b a) (nI n) l a0 a1 a2 a3 a4 a5 := by
  unfold wY_plan_218
  cases a with
  | true => exact br_f (by decide) (ht rfl)
  | false => exact br_t rfl (nm_r (nI_1 i) (hf rfl))
theorem zy_198 {post : Int32 → SY → Prop} {J : Int32 → Prop} {l : Int32} {n : Nat} {a0 a1 a2 a3 a4 a5 : Nat → Int32} {i : Nat} {a : Bool} (hi : i < n) (hn : n ≤ 24)
    (ht : (a || (!decide (a5 i = 0) && zk_fb n a5 i)) = true → post 4 (nI n, nI i, a0, a1, a2, a3, a4, a5))
    (hf : (a || (!decide (a5 i = 0) && zk_fb n a5 i)) = false → J (nI (i + 1))) : wY_plan_198 post J (nI i) (zk_b a) (nI n) l a0 a1 a2 a3 a4 a5 := by
  unfold wY_plan_198
  rw [nI_clamp (show i < 2 ^ 31 by omega)]
  refine ⟨vp_in_nI (by omega) (by omega), ?_⟩
  by_cases z : a5 i = 0
  · rw [zk_nd0 z, Bool.false_and, Bool.or_false] at ht hf
    exact br_t z (zy_218 ht hf)
  · rw [zk_nd z, Bool.true_and] at ht hf
    refine br_f z (zy_fb (f := a5) 5 i (by omega) hi hn rfl ?_)
    cases e : zk_fb n a5 i with
    | true =>
      rw [e, Bool.or_true] at ht
      exact br_f (by decide) (zy_218 (a := true) ht (fun z => absurd z (by decide)))
    | false =>
      rw [e, Bool.or_false] at ht hf
      exact br_t rfl (zy_218 ht hf)
theorem zy_168 {post : Int32 → SY → Prop} {l : Int32} {n : Nat} {a0 a1 a2 a3 a4 a5 : Nat → Int32} (hn : n ≤ 24) : ∀ d i, i + d = n → (zk_fst (zk_gh n a4 a5) d i < n → post 4 (nI n, nI (zk_fst (zk_gh n a4 a5) d i), a0, a1, a2, a3, a4, a5)) → (¬ zk_fst (zk_gh n a4 a5) d i < n → post 0 (nI n, -1, a0, a1, a2, a3, a4, a5)) → wY_plan_168 post (nI n) l a0 a1 a2 a3 a4 a5 (d + 1) (nI i) := by
  intro d
  induction d with
  | zero =>
    intro i hi _ h
    exact br_t (nI_le (a := n) (b := i) (by omega) (by omega)) (h (by show ¬ i < n; omega))
  | succ d ih =>
    intro i hi ht hf
    have T : zk_gh n a4 a5 i = true → post 4 (nI n, nI i, a0, a1, a2, a3, a4, a5) := by
      intro e
      rw [zk_fst_t e] at ht
      exact ht (by omega)
    have F : zk_gh n a4 a5 i = false → wY_plan_168 post (nI n) l a0 a1 a2 a3 a4 a5 (d + 1) (nI (i + 1)) := by
      intro e
      rw [zk_fst_f e] at ht hf
      exact ih (i + 1) (by omega) ht hf
    unfold zk_gh at T F
    have ec : a4 (nI i).toNatClampNeg = a4 i := by rw [nI_clamp (by omega)]
    refine br_f (nI_ge (a := i) (b := n) (by omega) (by omega)) ⟨vp_in_nI (by omega) (by omega), ?_⟩
    rw [ec]
    by_cases z : a4 i = 0
    · rw [zk_nd0 z, Bool.false_and] at T F
      exact br_t z (zy_198 (a := false) (by omega) hn T F)
    · rw [zk_nd z, Bool.true_and] at T F
      refine br_f z (zy_fb (f := a4) 4 i (by omega) (by omega) hn rfl ?_)
      cases e : zk_fb n a4 i with
      | true =>
        rw [e] at T F
        exact br_f (by decide) (zy_198 (a := true) (by omega) hn T F)
      | false =>
        rw [e] at T F
        exact br_t rfl (zy_198 (a := false) (by omega) hn T F)
theorem zy_p100 {post : Int32 → SY → Prop} {J : Int32 → (Nat → Int32) → (Nat → Int32) → (Nat → Int32) → (Nat → Int32) → (Nat → Int32) → (Nat → Int32) → Prop} {h i w t : Int32} {l : Int32} {n : Nat} {a0 a1 a2 a3 a4 a5 : Nat → Int32} {p : Nat} (hp : p < 24) (n1 : ¬ h = t) (n2 : ¬ (w = i ∧ (i = h ∨ i = t)))
    (ok : zk_RF h i w t = 0 → J (nI (p + 1)) a0 a1 a2 a3 (upd a4 p (zk_NI h i t)) (upd a5 p (zk_NW h i w t)))
    (no : ¬ zk_RF h i w t = 0 → post (zk_RF h i w t) (nI n, nI p, a0, a1, a2, a3, a4, a5)) : wY_plan_100 post J (nI p) h i w t (nI n) l a0 a1 a2 a3 a4 a5 := by
  unfold wY_plan_100
  rw [nI_clamp (show p < 2 ^ 31 by omega)]
  unfold zk_RF zk_NI zk_NW at ok
  unfold zk_RF at no
  rw [if_neg n1, if_neg n2] at no
  rw [if_neg n1, if_neg n2, if_neg n1, if_neg n1, if_neg n2] at ok
  have hv : vp_in (nI p) 24 := vp_in_nI (by omega) (by omega)
  by_cases z1 : i = t
  · rw [if_pos z1] at ok
    exact br_t z1 ⟨hv, nm_e ⟨hv, nm_e (nm_r (nI_1 p) (ok rfl))⟩⟩
  · rw [if_neg z1] at no
    refine br_f z1 ?_
    by_cases z2 : i = h
    · rw [if_neg (fun z => z z2)] at no
      refine br_t z2 ?_
      by_cases z3 : i = 0
      · rw [if_pos z3] at no
        exact br_t z3 (no (by decide))
      · rw [if_neg z3] at no
        refine br_f z3 ?_
        unfold wY_plan_141
        exact br_t z2 (no (by decide))
    · rw [if_pos z2] at no
      refine br_f z2 ?_
      unfold wY_plan_141
      exact br_f z2 (no (by decide))
theorem zy_p81 {post : Int32 → SY → Prop} {J : Int32 → (Nat → Int32) → (Nat → Int32) → (Nat → Int32) → (Nat → Int32) → (Nat → Int32) → (Nat → Int32) → Prop} {t : Int32} {l : Int32} {n : Nat} {a0 a1 a2 a3 a4 a5 : Nat → Int32} {p : Nat} (hp : p < 24)
    (ok : J (nI (p + 1)) a0 a1 a2 a3 (upd a4 p t) (upd a5 p t)) : wY_plan_81 post J (nI p) t (nI n) l a0 a1 a2 a3 a4 a5 := by
  unfold wY_plan_81
  rw [nI_clamp (show p < 2 ^ 31 by omega)]
  have hv : vp_in (nI p) 24 := vp_in_nI (by omega) (by omega)
  exact ⟨hv, nm_e ⟨hv, nm_e (nm_r (nI_1 p) ok)⟩⟩
theorem zy_pstep {post : Int32 → SY → Prop} {f : Nat} {l : Int32} {n : Nat} {a0 a1 a2 a3 a4 a5 : Nat → Int32} {p : Nat} (hp : p < n) (hn : n ≤ 24)
    (ok : zk_RF (a0 p) (a1 p) (a2 p) (a3 p) = 0 → wY_plan_2 post (nI n) l f (nI (p + 1)) a0 a1 a2 a3 (upd a4 p (zk_NI (a0 p) (a1 p) (a3 p))) (upd a5 p (zk_NW (a0 p) (a1 p) (a2 p) (a3 p))))
    (no : ¬ zk_RF (a0 p) (a1 p) (a2 p) (a3 p) = 0 → post (zk_RF (a0 p) (a1 p) (a2 p) (a3 p)) (nI n, nI p, a0, a1, a2, a3, a4, a5)) : wY_plan_2 post (nI n) l (f + 1) (nI p) a0 a1 a2 a3 a4 a5 := by
  have hv : vp_in (nI p) 24 := vp_in_nI (by omega) (by omega)
  have ec : (nI p).toNatClampNeg = p := nI_clamp (by omega)
  refine br_f (nI_ge (a := p) (b := n) hp (by omega)) ⟨hv, nm_r (congrArg a0 ec) ⟨hv, nm_r (congrArg a1 ec) ⟨hv, nm_r (congrArg a2 ec) ⟨hv, nm_r (congrArg a3 ec) ?_⟩⟩⟩⟩
  by_cases n1 : a0 p = a3 p
  · unfold zk_RF zk_NI zk_NW at ok
    rw [if_pos n1, if_pos n1, if_pos n1] at ok
    rw [ec]
    exact br_t n1 ⟨hv, nm_e ⟨hv, nm_e (nm_r (nI_1 p) (ok rfl))⟩⟩
  · refine br_f n1 ?_
    by_cases n2 : a2 p = a1 p ∧ (a1 p = a0 p ∨ a1 p = a3 p)
    · unfold zk_RF zk_NI zk_NW at ok
      rw [if_neg n1, if_pos n2, if_neg n1, if_neg n1, if_pos n2] at ok
      refine br_t n2.1 ?_
      have k := zy_p81 (post := post) (J := wY_plan_2 post (nI n) l f) (l := l) (n := n) (p := p) (t := a3 p) (a0 := a0) (a1 := a1) (a2 := a2) (a3 := a3) (a4 := a4) (a5 := a5) (by omega) (ok rfl)
      by_cases z : a1 p = a0 p
      · exact br_t z k
      · exact br_f z (br_t (n2.2.resolve_left z) k)
    · have k := zy_p100 (post := post) (J := wY_plan_2 post (nI n) l f) (l := l) (n := n) (p := p) (a0 := a0) (a1 := a1) (a2 := a2) (a3 := a3) (a4 := a4) (a5 := a5) (by omega) n1 n2 ok no
      by_cases z : a2 p = a1 p
      · exact br_t z (br_f (fun z2 => n2 ⟨z, Or.inl z2⟩) (br_f (fun z2 => n2 ⟨z, Or.inr z2⟩) k))
      · exact br_f z k
theorem zy_p2 {post : Int32 → SY → Prop} {l : Int32} {n : Nat} {a0 a1 a2 a3 a4 a5 : Nat → Int32} (hn : n ≤ 24) : ∀ d i, i + d = n →
    (∀ m, m = zk_fst (zk_gr a0 a1 a2 a3) d i → m < n → post (zk_RF (a0 m) (a1 m) (a2 m) (a3 m)) (nI n, nI m, a0, a1, a2, a3, zk_rw 0 (zk_ni a0 a1 a3) a4 m, zk_rw 0 (zk_nw a0 a1 a2 a3) a5 m)) →
    (zk_fst (zk_gr a0 a1 a2 a3) d i = n → zk_h n (zk_ni a0 a1 a3) (zk_nw a0 a1 a2 a3) < n → post 4 (nI n, nI (zk_h n (zk_ni a0 a1 a3) (zk_nw a0 a1 a2 a3)), a0, a1, a2, a3, zk_rw 0 (zk_ni a0 a1 a3) a4 n, zk_rw 0 (zk_nw a0 a1 a2 a3) a5 n)) →
    (zk_fst (zk_gr a0 a1 a2 a3) d i = n → ¬ zk_h n (zk_ni a0 a1 a3) (zk_nw a0 a1 a2 a3) < n → post 0 (nI n, -1, a0, a1, a2, a3, zk_rw 0 (zk_ni a0 a1 a3) a4 n, zk_rw 0 (zk_nw a0 a1 a2 a3) a5 n)) →
    wY_plan_2 post (nI n) l (d + 1) (nI i) a0 a1 a2 a3 (zk_rw 0 (zk_ni a0 a1 a3) a4 i) (zk_rw 0 (zk_nw a0 a1 a2 a3) a5 i) := by
  intro d
  induction d with
  | zero =>
    intro i hi _ h4 h0
    have e : i = n := by omega
    subst e
    have eh : zk_h i (zk_rw 0 (zk_ni a0 a1 a3) a4 i) (zk_rw 0 (zk_nw a0 a1 a2 a3) a5 i) = zk_h i (zk_ni a0 a1 a3) (zk_nw a0 a1 a2 a3) := zk_h_c (fun q hq => by have := zk_rw_in (b := 0) (F := zk_ni a0 a1 a3) (c := a4) hq; rw [Nat.zero_add] at this; exact this) (fun q hq => by have := zk_rw_in (b := 0) (F := zk_nw a0 a1 a2 a3) (c := a5) hq; rw [Nat.zero_add] at this; exact this)
    rw [← eh] at h4 h0
    exact br_t (nI_le (Nat.le_refl i) (by omega)) ⟨i + 1, zy_168 hn i 0 (by omega) (h4 rfl) (h0 rfl)⟩
  | succ d ih =>
    intro i hi hr h4 h0
    refine zy_pstep (by omega) hn (fun z => ?_) (fun z => ?_)
    · have g : zk_gr a0 a1 a2 a3 i = false := zk_nd0 z
      rw [zk_fst_f g] at hr h4 h0
      rw [zk_rw_up (F := zk_ni a0 a1 a3) (v := zk_NI (a0 i) (a1 i) (a3 i)) (show i = 0 + i by omega) rfl, zk_rw_up (F := zk_nw a0 a1 a2 a3) (v := zk_NW (a0 i) (a1 i) (a2 i) (a3 i)) (show i = 0 + i by omega) rfl]
      exact ih (i + 1) (by omega) hr h4 h0
    · have g : zk_gr a0 a1 a2 a3 i = true := zk_nd z
      rw [zk_fst_t g] at hr
      exact hr i rfl (by omega)
theorem zy_plan {post : Int32 → SY → Prop} {l : Int32} {n : Nat} {a0 a1 a2 a3 a4 a5 : Nat → Int32} (hn : n ≤ 24) (h : post (zk_pa n a0 a1 a2 a3) (nI n, zk_pr n a0 a1 a2 a3, a0, a1, a2, a3, zk_rw 0 (zk_ni a0 a1 a3) a4 (zk_m n a0 a1 a2 a3), zk_rw 0 (zk_nw a0 a1 a2 a3) a5 (zk_m n a0 a1 a2 a3))) : wpY_plan post (nI n, l, a0, a1, a2, a3, a4, a5) := by
  unfold wpY_plan
  dsimp only
  have le : zk_m n a0 a1 a2 a3 ≤ 0 + n := zk_fst_le n 0
  have k := zy_p2 (post := post) (l := l) (a0 := a0) (a1 := a1) (a2 := a2) (a3 := a3) (a4 := a4) (a5 := a5) hn n 0 (by omega) (fun m em hm => ?_) (fun em hh => ?_) (fun em hh => ?_)
  · rw [zk_rw_0, zk_rw_0] at k
    exact ⟨n + 1, k⟩
  · have em' : zk_m n a0 a1 a2 a3 = m := em.symm
    unfold zk_pa zk_pr at h
    rw [em', if_pos hm, if_pos hm] at h
    exact h
  · have em' : zk_m n a0 a1 a2 a3 = n := em
    unfold zk_pa zk_pr at h
    rw [em', if_neg (Nat.lt_irrefl n), if_neg (Nat.lt_irrefl n), if_pos hh, if_pos hh] at h
    exact h
  · have em' : zk_m n a0 a1 a2 a3 = n := em
    unfold zk_pa zk_pr at h
    rw [em', if_neg (Nat.lt_irrefl n), if_neg (Nat.lt_irrefl n), if_neg hh, if_neg hh] at h
    exact h
theorem zy_preview {post : Int32 → SY → Prop} {l : Int32} {n : Nat} {a0 a1 a2 a3 a4 a5 : Nat → Int32} (hn : n ≤ 24) (h : post (zk_pa n a0 a1 a2 a3) (nI n, zk_pr n a0 a1 a2 a3, a0, a1, a2, a3, zk_rw 0 (zk_ni a0 a1 a3) a4 (zk_m n a0 a1 a2 a3), zk_rw 0 (zk_nw a0 a1 a2 a3) a5 (zk_m n a0 a1 a2 a3))) : wpY_preview post (nI n, l, a0, a1, a2, a3, a4, a5) := by
  unfold wpY_preview
  dsimp only
  exact zy_plan hn h
theorem zy_ap2 {post : SY → Prop} {l : Int32} {n : Nat} {a0 a1 a2 a3 a4 a5 : Nat → Int32} (hn : n ≤ 24) : ∀ d i, i + d = n → post (nI n, l, zk_rw 0 a3 a0 n, zk_rw 0 a4 a1 n, zk_rw 0 a5 a2 n, a3, a4, a5) → wY_apply_2 post (nI n) l (d + 1) (nI i) (zk_rw 0 a3 a0 i) (zk_rw 0 a4 a1 i) (zk_rw 0 a5 a2 i) a3 a4 a5 := by
  intro d
  induction d with
  | zero =>
    intro i hi h
    have e : i = n := by omega
    subst e
    exact br_t (nI_le (Nat.le_refl i) (by omega)) h
  | succ d ih =>
    intro i hi h
    have hv : vp_in (nI i) 24 := vp_in_nI (by omega) (by omega)
    have up : ∀ f g : Nat → Int32, upd (zk_rw 0 f g i) (nI i).toNatClampNeg (f (nI i).toNatClampNeg) = zk_rw 0 f g (i + 1) := by
      intro f g
      rw [nI_clamp (show i < 2 ^ 31 by omega), zk_rw_up (by omega) rfl]
    exact br_f (nI_ge (a := i) (b := n) (by omega) (by omega)) ⟨hv, hv, nm_r (up a3 a0) ⟨hv, hv, nm_r (up a4 a1) ⟨hv, hv, nm_r (up a5 a2) (nm_r (nI_1 i) (ih (i + 1) (by omega) h))⟩⟩⟩
theorem zy_apply {post : SY → Prop} {l : Int32} {n : Nat} {a0 a1 a2 a3 a4 a5 : Nat → Int32} (hn : n ≤ 24) (h : post (nI n, l, zk_rw 0 a3 a0 n, zk_rw 0 a4 a1 n, zk_rw 0 a5 a2 n, a3, a4, a5)) : wpY_apply post (nI n, l, a0, a1, a2, a3, a4, a5) := by
  unfold wpY_apply
  dsimp only
  have k := zy_ap2 (post := post) (l := l) (a0 := a0) (a1 := a1) (a2 := a2) (a3 := a3) (a4 := a4) (a5 := a5) hn n 0 (by omega) h
  rw [zk_rw_0, zk_rw_0, zk_rw_0] at k
  exact ⟨n + 1, k⟩
theorem zy_sw0 {post : Int32 → SY → Prop} {l : Int32} {n : Nat} {a0 a1 a2 a3 a4 a5 : Nat → Int32} (hn : n ≤ 24)
    (h0 : zk_pa n a0 a1 a2 a3 = 0 → post (zk_pa n a0 a1 a2 a3) (nI n, zk_pr n a0 a1 a2 a3, zk_rw 0 a3 a0 n, zk_rw 0 (zk_rw 0 (zk_ni a0 a1 a3) a4 (zk_m n a0 a1 a2 a3)) a1 n, zk_rw 0 (zk_rw 0 (zk_nw a0 a1 a2 a3) a5 (zk_m n a0 a1 a2 a3)) a2 n, a3, zk_rw 0 (zk_ni a0 a1 a3) a4 (zk_m n a0 a1 a2 a3), zk_rw 0 (zk_nw a0 a1 a2 a3) a5 (zk_m n a0 a1 a2 a3)))
    (h1 : ¬ zk_pa n a0 a1 a2 a3 = 0 → post (zk_pa n a0 a1 a2 a3) (nI n, zk_pr n a0 a1 a2 a3, a0, a1, a2, a3, zk_rw 0 (zk_ni a0 a1 a3) a4 (zk_m n a0 a1 a2 a3), zk_rw 0 (zk_nw a0 a1 a2 a3) a5 (zk_m n a0 a1 a2 a3))) : wpY_switchTo post (nI n, l, a0, a1, a2, a3, a4, a5) 0 := by
  unfold wpY_switchTo
  dsimp only
  refine br_t rfl (zy_plan hn ?_)
  by_cases z : zk_pa n a0 a1 a2 a3 = 0
  · exact br_t z (zy_apply hn (h0 z))
  · exact br_f z (h1 z)
theorem zy_s21 {post : Int32 → SY → Prop} {l : Int32} {n : Nat} {a0 a1 a2 a3 a4 a5 : Nat → Int32} (hn : n ≤ 24) : ∀ d i, i + d = n →
    post 0 (nI n, -1, zk_rw 0 a3 a0 n, zk_rw 0 (zk_rw 0 a3 a4 n) a1 n, zk_rw 0 (zk_rw 0 (zk_fw n a0 a1 a2 a3) a5 n) a2 n, a3, zk_rw 0 a3 a4 n, zk_rw 0 (zk_fw n a0 a1 a2 a3) a5 n) →
    wY_switchTo_21 post (nI n) l (d + 1) (nI i) a0 a1 a2 a3 (zk_rw 0 a3 a4 i) (zk_rw 0 (zk_fw n a0 a1 a2 a3) a5 i) := by
  intro d
  induction d with
  | zero =>
    intro i hi h
    have e : i = n := by omega
    subst e
    exact br_t (nI_le (Nat.le_refl i) (by omega)) (zy_apply hn h)
  | succ d ih =>
    intro i hi h
    have hv : vp_in (nI i) 24 := vp_in_nI (by omega) (by omega)
    have ec : (nI i).toNatClampNeg = i := nI_clamp (by omega)
    have up4 : upd (zk_rw 0 a3 a4 i) (nI i).toNatClampNeg (a3 i) = zk_rw 0 a3 a4 (i + 1) := by
      rw [ec, zk_rw_up (by omega) rfl]
    have up5 : ∀ v, v = zk_fw n a0 a1 a2 a3 i → upd (zk_rw 0 (zk_fw n a0 a1 a2 a3) a5 i) (nI i).toNatClampNeg v = zk_rw 0 (zk_fw n a0 a1 a2 a3) a5 (i + 1) := by
      intro v hv
      rw [ec, zk_rw_up (by omega) hv]
    have nx := ih (i + 1) (by omega) h
    refine br_f (nI_ge (a := i) (b := n) (by omega) (by omega)) ⟨hv, nm_r (congrArg a3 ec) ⟨hv, nm_r up4 ⟨hv, ?_⟩⟩⟩
    have k65 : (¬ a0 i = 0 ∨ ¬ a1 i = 0 ∨ ¬ a3 i = 0) → wY_switchTo_65 post (wY_switchTo_21 post (nI n) l (d + 1)) (nI i) (a3 i) (nI n) l a0 a1 a2 a3 (zk_rw 0 a3 a4 (i + 1)) (zk_rw 0 (zk_fw n a0 a1 a2 a3) a5 i) := by
      intro z
      unfold wY_switchTo_65
      exact ⟨hv, nm_r (up5 _ (by unfold zk_fw; rw [if_pos z])) (nm_r (nI_1 i) nx)⟩
    rw [show a0 (nI i).toNatClampNeg = a0 i by rw [ec]]
    by_cases z0 : a0 i = 0
    · refine br_t z0 ⟨hv, ?_⟩
      rw [show a1 (nI i).toNatClampNeg = a1 i by rw [ec]]
      by_cases z1 : a1 i = 0
      · refine br_t z1 ?_
        by_cases z3 : a3 i = 0
        · have nz : ¬ (¬ a0 i = 0 ∨ ¬ a1 i = 0 ∨ ¬ a3 i = 0) := by
            rintro (a | a | a)
            · exact a z0
            · exact a z1
            · exact a z3
          have k93 : (zk_fa n a3 i = true ∨ zk_fb n a3 i = true) → wY_switchTo_93 post (wY_switchTo_21 post (nI n) l (d + 1)) (nI i) (nI n) l a0 a1 a2 a3 (zk_rw 0 a3 a4 (i + 1)) (zk_rw 0 (zk_fw n a0 a1 a2 a3) a5 i) := by
            intro z
            unfold wY_switchTo_93
            exact ⟨hv, nm_r (up5 _ (by unfold zk_fw; rw [if_neg nz, if_pos z])) (nm_r (nI_1 i) nx)⟩
          refine br_t z3 (zy_fa (f := a3) 3 i (by omega) (by omega) hn rfl ?_)
          cases ea : zk_fa n a3 i with
          | true => exact br_f (by decide) (k93 (Or.inl ea))
          | false =>
            refine br_t rfl (zy_fb (f := a3) 3 i (by omega) (by omega) hn rfl ?_)
            cases eb : zk_fb n a3 i with
            | true => exact br_f (by decide) (k93 (Or.inr eb))
            | false =>
              refine br_t rfl ⟨hv, hv, nm_r (up5 _ ?_) (nm_r (nI_1 i) nx)⟩
              unfold zk_fw
              rw [if_neg nz, if_neg (by rw [ea, eb]; decide), ec]
        · exact br_f z3 (k65 (Or.inr (Or.inr z3)))
      · exact br_f z1 (k65 (Or.inr (Or.inl z1)))
    · exact br_f z0 (k65 (Or.inl z0))
theorem zy_sw1 {post : Int32 → SY → Prop} {l : Int32} {n : Nat} {a0 a1 a2 a3 a4 a5 : Nat → Int32} (hn : n ≤ 24)
    (h : post 0 (nI n, -1, zk_rw 0 a3 a0 n, zk_rw 0 (zk_rw 0 a3 a4 n) a1 n, zk_rw 0 (zk_rw 0 (zk_fw n a0 a1 a2 a3) a5 n) a2 n, a3, zk_rw 0 a3 a4 n, zk_rw 0 (zk_fw n a0 a1 a2 a3) a5 n)) : wpY_switchTo post (nI n, l, a0, a1, a2, a3, a4, a5) 1 := by
  unfold wpY_switchTo
  dsimp only
  have k := zy_s21 (post := post) (l := l) (a0 := a0) (a1 := a1) (a2 := a2) (a3 := a3) (a4 := a4) (a5 := a5) hn n 0 (by omega) h
  rw [zk_rw_0, zk_rw_0] at k
  exact br_f (by decide) ⟨n + 1, k⟩
end ZYC
section ZYD
/-! the readers -/
theorem zy_tno {A B : Prop} {x : Int32} (hx : x < 0 ∨ 3 < x) (h : B) : (x < 0 → B) ∧ (¬ x < 0 → ((3 < x → B) ∧ (¬ 3 < x → A))) := by
  by_cases e : x < 0
  · exact br_t e h
  · exact br_f e (br_t (hx.resolve_left e) h)
theorem zy_t1 {A B : Prop} {t : Nat} (ht : t < 4) (h : A) : (nI t < 0 → B) ∧ (¬ nI t < 0 → ((3 < nI t → B) ∧ (¬ 3 < nI t → A))) :=
  br_f (nI_pos (by omega)) (br_f (nI_nlt (a := 3) (b := t) (by omega) (by decide)) h)
theorem zy_p1 {A B : Prop} {n p : Nat} (hp : p < n) (hn : n ≤ 24) (h : A) : (nI p < 0 → B) ∧ (¬ nI p < 0 → ((nI p < nI n → A) ∧ (¬ nI p < nI n → B))) :=
  br_f (nI_pos (by omega)) (br_t (nI_lt hp (by omega)) h)
theorem zy_entry {post : Int32 → Prop} {l : Int32} {n : Nat} {a0 a1 a2 a3 a4 a5 : Nat → Int32} (t p : Nat) (ht : t < 4) (hp : p < n) (hn : n ≤ 24) (h : post (zk_tr a0 a1 a2 a3 a4 a5 t p)) : wpY_entry post (nI n, l, a0, a1, a2, a3, a4, a5) (nI t) (nI p) := by
  unfold wpY_entry
  dsimp only
  exact zy_t1 ht (zy_p1 hp hn (zy_get t p (by omega) hp hn rfl h))
theorem zy_entry0 {post : Int32 → Prop} {x y : Int32} {l : Int32} {n : Nat} {a0 a1 a2 a3 a4 a5 : Nat → Int32} (hx : x < 0 ∨ 3 < x) (h : post (-1)) : wpY_entry post (nI n, l, a0, a1, a2, a3, a4, a5) x y := by
  unfold wpY_entry
  dsimp only
  exact zy_tno hx h
theorem zy_entry1 {post : Int32 → Prop} {y : Int32} {l : Int32} {n : Nat} {a0 a1 a2 a3 a4 a5 : Nat → Int32} (t : Nat) (ht : t < 4) (hy : y < 0 ∨ nI n ≤ y) (h : post (-1)) : wpY_entry post (nI n, l, a0, a1, a2, a3, a4, a5) (nI t) y := by
  unfold wpY_entry
  dsimp only
  exact zy_t1 ht (zy_no hy h)
theorem zy_kind {post : Int32 → Prop} {l : Int32} {n : Nat} {a0 a1 a2 a3 a4 a5 : Nat → Int32} (t p : Nat) (ht : t < 4) (hp : p < n) (hn : n ≤ 24) (h : post (zk_kd n (zk_tr a0 a1 a2 a3 a4 a5 t) p)) : wpY_kind post (nI n, l, a0, a1, a2, a3, a4, a5) (nI t) (nI p) := by
  unfold wpY_kind
  dsimp only
  refine zy_t1 ht (zy_p1 hp hn (zy_get t p (by omega) hp hn rfl ?_))
  unfold zk_kd at h
  by_cases z : zk_tr a0 a1 a2 a3 a4 a5 t p = 0
  · rw [if_pos z] at h
    refine br_t z (zy_fb t p (by omega) hp hn rfl ?_)
    cases e : zk_fb n (zk_tr a0 a1 a2 a3 a4 a5 t) p with
    | true =>
      rw [e] at h
      exact br_f (by decide) h
    | false =>
      rw [e] at h
      exact br_t rfl h
  · rw [if_neg z] at h
    exact br_f z h
theorem zy_kind0 {post : Int32 → Prop} {x y : Int32} {l : Int32} {n : Nat} {a0 a1 a2 a3 a4 a5 : Nat → Int32} (hx : x < 0 ∨ 3 < x) (h : post (-1)) : wpY_kind post (nI n, l, a0, a1, a2, a3, a4, a5) x y := by
  unfold wpY_kind
  dsimp only
  exact zy_tno hx h
theorem zy_kind1 {post : Int32 → Prop} {y : Int32} {l : Int32} {n : Nat} {a0 a1 a2 a3 a4 a5 : Nat → Int32} (t : Nat) (ht : t < 4) (hy : y < 0 ∨ nI n ≤ y) (h : post (-1)) : wpY_kind post (nI n, l, a0, a1, a2, a3, a4, a5) (nI t) y := by
  unfold wpY_kind
  dsimp only
  exact zy_t1 ht (zy_no hy h)
theorem zy_cmp {post : Int32 → Prop} {a b : Int32} {v : SY} (h : post (zk_cm a b)) : wpY_cmp post v a b := by
  obtain ⟨_, _, _, _, _, _, _, _⟩ := v
  unfold wpY_cmp
  dsimp only
  unfold zk_cm at h
  by_cases z1 : a = b
  · rw [if_pos z1] at h
    exact br_t z1 h
  · rw [if_neg z1] at h
    refine br_f z1 ?_
    by_cases z2 : a = 0
    · rw [if_pos z2] at h
      exact br_t z2 h
    · rw [if_neg z2] at h
      refine br_f z2 ?_
      by_cases z3 : b = 0
      · rw [if_pos z3] at h
        exact br_t z3 h
      · rw [if_neg z3] at h
        exact br_f z3 h
theorem zy_status {post : Int32 → Prop} {l : Int32} {n : Nat} {a0 a1 a2 a3 a4 a5 : Nat → Int32} (p : Nat) (hp : p < n) (hn : n ≤ 24) (h : post (zk_cm (a0 p) (a1 p) * 4 + zk_cm (a1 p) (a2 p))) : wpY_status post (nI n, l, a0, a1, a2, a3, a4, a5) (nI p) := by
  unfold wpY_status
  dsimp only
  rw [nI_clamp (show p < 2 ^ 31 by omega)]
  have hv : vp_in (nI p) 24 := vp_in_nI (by omega) (by omega)
  exact zy_p1 hp hn ⟨hv, hv, zy_cmp ⟨hv, hv, zy_cmp h⟩⟩
theorem zy_status0 {post : Int32 → Prop} {x : Int32} {l : Int32} {n : Nat} {a0 a1 a2 a3 a4 a5 : Nat → Int32} (hx : x < 0 ∨ nI n ≤ x) (h : post (-1)) : wpY_status post (nI n, l, a0, a1, a2, a3, a4, a5) x := by
  unfold wpY_status
  dsimp only
  exact zy_no hx h
theorem zy_cf15 {post : Int32 → Prop} {l : Int32} {n : Nat} {a0 a1 a2 a3 a4 a5 : Nat → Int32} (t : Nat) (ht : t < 6) (hn : n ≤ 24) : ∀ d i r, i + d = n → post (nI (r + zk_cn (zk_nz (zk_tr a0 a1 a2 a3 a4 a5 t)) d i)) → wY_countFiles_15 post (nI t) (nI n) l a0 a1 a2 a3 a4 a5 (d + 1) (nI r) (nI i) := by
  intro d
  induction d with
  | zero =>
    intro i r hi h
    exact br_t (nI_le (a := n) (b := i) (by omega) (by omega)) h
  | succ d ih =>
    intro i r hi h
    refine br_f (nI_ge (a := i) (b := n) (by omega) (by omega)) (zy_get t i ht (by omega) hn rfl ?_)
    by_cases z : zk_tr a0 a1 a2 a3 a4 a5 t i = 0
    · rw [zk_cn_f (g := zk_nz (zk_tr a0 a1 a2 a3 a4 a5 t)) (zk_nd0 z)] at h
      exact br_t z (nm_r (nI_1 i) (ih (i + 1) r (by omega) h))
    · rw [zk_cn_t (g := zk_nz (zk_tr a0 a1 a2 a3 a4 a5 t)) (zk_nd z), ← Nat.add_assoc] at h
      exact br_f z (nm_r (nI_1 r) (nm_r (nI_1 i) (ih (i + 1) (r + 1) (by omega) h)))
theorem zy_count {post : Int32 → Prop} {l : Int32} {n : Nat} {a0 a1 a2 a3 a4 a5 : Nat → Int32} (t : Nat) (ht : t < 4) (hn : n ≤ 24) (h : post (nI (zk_cn (zk_nz (zk_tr a0 a1 a2 a3 a4 a5 t)) n 0))) : wpY_countFiles post (nI n, l, a0, a1, a2, a3, a4, a5) (nI t) := by
  unfold wpY_countFiles
  dsimp only
  exact br_f (nI_pos (by omega)) (br_t (nI_le (a := t) (b := 3) (by omega) (by decide)) ⟨n + 1, zy_cf15 t (by omega) hn n 0 0 (by omega) (by rw [Nat.zero_add]; exact h)⟩)
theorem zy_count0 {post : Int32 → Prop} {x : Int32} {l : Int32} {n : Nat} {a0 a1 a2 a3 a4 a5 : Nat → Int32} (hx : x < 0 ∨ 3 < x) (h : post (-1)) : wpY_countFiles post (nI n, l, a0, a1, a2, a3, a4, a5) x := by
  unfold wpY_countFiles
  dsimp only
  by_cases e : x < 0
  · exact br_t e h
  · exact br_f e (br_f (Int32.not_le.mpr (hx.resolve_left e)) h)
end ZYD
