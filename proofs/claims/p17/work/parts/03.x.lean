section ZXC
/-! stage, copyTree, commit, targetFromHead -/
theorem zk_cF_t {p q : Nat} {f : Nat → Int32} (hm : zk_an q p = true ∨ zk_an p q = true) : zk_cF p f q = 0 := by
  unfold zk_cF
  rw [if_pos hm]
theorem zk_cF_n {p q : Nat} {f : Nat → Int32} (hm : ¬ (zk_an q p = true ∨ zk_an p q = true)) : zk_cF p f q = f q := by
  unfold zk_cF
  rw [if_neg hm]
theorem zx_cl26 {post : St2 → Prop} {J : Int32 → Int32 → Int32 → (Nat → Int32) → Prop} {N l : Int32} {c : Nat → Int32} (t : Nat) {p i : Nat} (ht : t < 6) (hi : i < 24) (hm : zk_an i p = true ∨ zk_an p i = true)
    (h : J (nI (i + 1)) N l (zk_rw (t * 24) (zk_cF p (fun q => c (t * 24 + q))) c (i + 1))) :
    wX_clearRelatives_26 post J (nI t) (nI p) (nI i) N l (zk_rw (t * 24) (zk_cF p (fun q => c (t * 24 + q))) c i) := by
  unfold wX_clearRelatives_26
  refine zx_put t i ht hi ?_
  rw [zk_rw_up rfl (zk_cF_t hm).symm]
  exact nm_r (nI_1 i) h
theorem zx_cl2 {post : St2 → Prop} {l : Int32} {n : Nat} {c : Nat → Int32} (t p : Nat) (ht : t < 6) (hp : p < 24) (hn : n ≤ 24) : ∀ d i, i + d = n → post (nI n, l, zk_rw (t * 24) (zk_cF p (fun q => c (t * 24 + q))) c n) → wX_clearRelatives_2 post (nI t) (nI p) (d + 1) (nI i) (nI n) l (zk_rw (t * 24) (zk_cF p (fun q => c (t * 24 + q))) c i) := by
  intro d
  induction d with
  | zero =>
    intro i hi h
    have e : i = n := by omega
    subst e
    exact br_t (nI_le (Nat.le_refl i) (by omega)) h
  | succ d ih =>
    intro i hi h
    refine br_f (nI_ge (a := i) (b := n) (by omega) (by omega)) (zx_ab i p (by omega) hp ?_)
    cases e : zk_an i p with
    | true => exact br_f (by decide) (zx_cl26 t ht (by omega) (Or.inl e) (ih (i + 1) (by omega) h))
    | false =>
      refine br_t rfl (zx_ab p i hp (by omega) ?_)
      cases e2 : zk_an p i with
      | true => exact br_f (by decide) (zx_cl26 t ht (by omega) (Or.inr e2) (ih (i + 1) (by omega) h))
      | false =>
        have hm : ¬ (zk_an i p = true ∨ zk_an p i = true) := by
          rw [e, e2]
          decide
        refine br_t rfl (nm_r (nI_1 i) ?_)
        rw [zk_rw_st (zk_cF_n (f := fun q => c (t * 24 + q)) hm)]
        exact ih (i + 1) (by omega) h
theorem zx_clear {post : St2 → Prop} {l : Int32} {n : Nat} {c : Nat → Int32} (t p : Nat) (ht : t < 6) (hp : p < 24) (hn : n ≤ 24) (h : post (nI n, l, zk_rw (t * 24) (zk_cF p (fun q => c (t * 24 + q))) c n)) : wpX_clearRelatives post (nI n, l, c) (nI t) (nI p) := by
  unfold wpX_clearRelatives
  dsimp only
  have k := zx_cl2 (post := post) (l := l) (n := n) (c := c) t p ht hp hn n 0 (by omega) h
  rw [zk_rw_0] at k
  exact ⟨n + 1, k⟩
def zk_sx (n : Nat) (c : Nat → Int32) (p : Nat) : Nat → Int32 :=
  if c (2 * 24 + p) = 0 then upd c (1 * 24 + p) (c (2 * 24 + p))
  else zk_rw (1 * 24) (zk_cF p (fun q => upd c (1 * 24 + p) (c (2 * 24 + p)) (1 * 24 + q))) (upd c (1 * 24 + p) (c (2 * 24 + p))) n
theorem zx_stage {post : Int32 → St2 → Prop} {l : Int32} {n p : Nat} {c : Nat → Int32} (hp : p < n) (hn : n ≤ 24) (h : post 1 (nI n, l, zk_sx n c p)) : wpX_stage post (nI n, l, c) (nI p) := by
  unfold wpX_stage
  dsimp only
  refine zx_ip1 hp hn (br_f (by decide) (zx_get 2 p (by omega) (by omega) rfl (zx_put 1 p (by omega) (by omega) ?_)))
  unfold zk_sx at h
  by_cases z : c (2 * 24 + p) = 0
  · rw [if_pos z] at h
    exact br_t z h
  · rw [if_neg z] at h
    exact br_f z (zx_clear 1 p (by omega) (by omega) hn h)
theorem zx_stage0 {post : Int32 → St2 → Prop} {l x : Int32} {n : Nat} {c : Nat → Int32} (hx : x < 0 ∨ nI n ≤ x) (h : post 0 (nI n, l, c)) : wpX_stage post (nI n, l, c) x := by
  unfold wpX_stage
  dsimp only
  exact zx_ip0 hx (br_t rfl h)
theorem zx_cp5 {post : Int32 → St2 → Prop} {l : Int32} {n : Nat} {c : Nat → Int32} (s t : Nat) (hs : s < 6) (ht : t < 6) (st : s ≠ t) (hn : n ≤ 24) : ∀ d i r, i + d = n → post (nI (r + zk_cn (zk_ne (fun q => c (t * 24 + q)) (fun q => c (s * 24 + q))) d i)) (nI n, l, zk_cp n s t c) → wX_copyTree_5 post (nI s) (nI t) (d + 1) (nI r) (nI i) (nI n) l (zk_rw (t * 24) (fun q => c (s * 24 + q)) c i) := by
  intro d
  induction d with
  | zero =>
    intro i r hi h
    have e : i = n := by omega
    subst e
    exact br_t (nI_le (Nat.le_refl i) (by omega)) h
  | succ d ih =>
    intro i r hi h
    refine br_f (nI_ge (a := i) (b := n) (by omega) (by omega)) (zx_get s i hs (by omega) (zk_rw_out (by omega)) (zx_get t i ht (by omega) (zk_rw_out (by omega)) ?_))
    by_cases z : c (t * 24 + i) = c (s * 24 + i)
    · refine br_t z (nm_r (nI_1 i) ?_)
      rw [zk_rw_st (F := fun q => c (s * 24 + q)) z.symm]
      rw [zk_cn_f (g := zk_ne (fun q => c (t * 24 + q)) (fun q => c (s * 24 + q))) (zk_nd0 z)] at h
      exact ih (i + 1) r (by omega) h
    · refine br_f z (zx_put t i ht (by omega) ?_)
      rw [zk_rw_up (F := fun q => c (s * 24 + q)) rfl rfl]
      rw [zk_cn_t (g := zk_ne (fun q => c (t * 24 + q)) (fun q => c (s * 24 + q))) (zk_nd z), ← Nat.add_assoc] at h
      exact nm_r (nI_1 r) (nm_r (nI_1 i) (ih (i + 1) (r + 1) (by omega) h))
theorem zx_cp {post : Int32 → St2 → Prop} {l : Int32} {n : Nat} {c : Nat → Int32} (s t : Nat) (hs : s < 6) (ht : t < 6) (st : s ≠ t) (hn : n ≤ 24) (h : post (nI (zk_cn (zk_ne (fun q => c (t * 24 + q)) (fun q => c (s * 24 + q))) n 0)) (nI n, l, zk_cp n s t c)) : wpX_copyTree post (nI n, l, c) (nI s) (nI t) := by
  unfold wpX_copyTree
  dsimp only
  have k := zx_cp5 (post := post) (l := l) (n := n) (c := c) s t hs ht st hn n 0 0 (by omega) (by rw [Nat.zero_add]; exact h)
  rw [zk_rw_0] at k
  exact ⟨n + 1, k⟩
theorem zx_commit {post : Int32 → St2 → Prop} {l : Int32} {n : Nat} {c : Nat → Int32} (hn : n ≤ 24) (h : post (nI (zk_cn (zk_ne (fun q => c (0 * 24 + q)) (fun q => c (1 * 24 + q))) n 0)) (nI n, l, zk_cp n 1 0 c)) : wpX_commit post (nI n, l, c) := by
  unfold wpX_commit
  dsimp only
  exact zx_cp 1 0 (by omega) (by omega) (by omega) hn h
theorem zx_tfh {post : St2 → Prop} {l : Int32} {n : Nat} {c : Nat → Int32} (hn : n ≤ 24) (h : post (nI n, l, zk_cp n 0 3 c)) : wpX_targetFromHead post (nI n, l, c) := by
  unfold wpX_targetFromHead
  dsimp only
  exact zx_cp 0 3 (by omega) (by omega) (by omega) hn h
end ZXC
section ZXD
/-! the plans -/
theorem zx_fw {post : Int32 → Prop} {l : Int32} {n p : Nat} {c : Nat → Int32} (hp : p < n) (hn : n ≤ 24) (h : post (zk_fw n (fun q => c (0 * 24 + q)) (fun q => c (1 * 24 + q)) (fun q => c (2 * 24 + q)) (fun q => c (3 * 24 + q)) p)) : wpX_forcedWork post (nI n, l, c) (nI p) := by
  unfold wpX_forcedWork
  dsimp only
  unfold zk_fw at h
  refine zx_get 3 p (by omega) (by omega) rfl (zx_get 0 p (by omega) (by omega) rfl ?_)
  by_cases z0 : c (0 * 24 + p) = 0
  · refine br_t z0 (zx_get 1 p (by omega) (by omega) rfl ?_)
    by_cases z1 : c (1 * 24 + p) = 0
    · refine br_t z1 ?_
      by_cases z3 : c (3 * 24 + p) = 0
      · rw [if_neg (by rintro (a | a | a) <;> exact a (by assumption))] at h
        refine br_t z3 (zx_fa 3 p (by omega) hp hn ?_)
        cases ea : zk_fa n (fun q => c (3 * 24 + q)) p with
        | true =>
          rw [if_pos (Or.inl ea)] at h
          exact br_f (by decide) h
        | false =>
          refine br_t rfl (zx_fb 3 p (by omega) hp hn ?_)
          cases eb : zk_fb n (fun q => c (3 * 24 + q)) p with
          | true =>
            rw [if_pos (Or.inr eb)] at h
            exact br_f (by decide) h
          | false =>
            rw [if_neg (by rw [ea, eb]; decide)] at h
            exact br_t rfl (zx_get 2 p (by omega) (by omega) rfl h)
      · rw [if_pos (Or.inr (Or.inr z3))] at h
        exact br_f z3 h
    · rw [if_pos (Or.inr (Or.inl z1))] at h
      exact br_f z1 h
  · rw [if_pos (Or.inl z0)] at h
    exact br_f z0 h
theorem zx_pe {post : St2 → Prop} {N l a b : Int32} {c : Nat → Int32} (p : Nat) (hp : p < 24) (h : post (N, l, upd (upd c (4 * 24 + p) a) (5 * 24 + p) b)) : wpX_planEntries post (N, l, c) (nI p) a b := by
  unfold wpX_planEntries
  dsimp only
  exact zx_put 4 p (by omega) hp (zx_put 5 p (by omega) hp h)
theorem zx_pf2 {post : Int32 → St2 → Prop} {l : Int32} {n : Nat} {c : Nat → Int32} (hn : n ≤ 24) : ∀ d i, i + d = n → post 0 (nI n, -1, zk_pl (fun q => c (3 * 24 + q)) (zk_fw n (fun q => c (0 * 24 + q)) (fun q => c (1 * 24 + q)) (fun q => c (2 * 24 + q)) (fun q => c (3 * 24 + q))) c n) → wX_planForced_2 post (d + 1) (nI i) (nI n) l (zk_pl (fun q => c (3 * 24 + q)) (zk_fw n (fun q => c (0 * 24 + q)) (fun q => c (1 * 24 + q)) (fun q => c (2 * 24 + q)) (fun q => c (3 * 24 + q))) c i) := by
  intro d
  induction d with
  | zero =>
    intro i hi h
    have e : i = n := by omega
    subst e
    exact br_t (nI_le (Nat.le_refl i) (by omega)) h
  | succ d ih =>
    intro i hi h
    refine br_f (nI_ge (a := i) (b := n) (by omega) (by omega)) (zx_get 3 i (by omega) (by omega) (zk_pl_k 3 (by omega) (by omega)) (zx_fw (by omega) hn (zx_pe i (by omega) ?_)))
    rw [zk_pl_up (by omega) rfl (zk_fw_c (fun q hq => zk_pl_k 0 (by omega) (by omega)) (fun q hq => zk_pl_k 1 (by omega) (by omega)) (fun q hq => zk_pl_k 2 (by omega) (by omega)) (fun q hq => zk_pl_k 3 (by omega) (by omega)) i (by omega))]
    exact nm_r (nI_1 i) (ih (i + 1) (by omega) h)
theorem zx_pf {post : Int32 → St2 → Prop} {l : Int32} {n : Nat} {c : Nat → Int32} (hn : n ≤ 24) (h : post 0 (nI n, -1, zk_pl (fun q => c (3 * 24 + q)) (zk_fw n (fun q => c (0 * 24 + q)) (fun q => c (1 * 24 + q)) (fun q => c (2 * 24 + q)) (fun q => c (3 * 24 + q))) c n)) : wpX_planForced post (nI n, l, c) := by
  unfold wpX_planForced
  dsimp only
  have k := zx_pf2 (post := post) (l := l) (n := n) (c := c) hn n 0 (by omega) h
  rw [zk_pl_0] at k
  exact ⟨n + 1, k⟩
theorem zx_pp74 {post : Int32 → St2 → Prop} {N l h i w t : Int32} {c : Nat → Int32} {p : Nat} (hp : p < 24) (n1 : ¬ h = t) (n2 : ¬ (w = i ∧ (i = h ∨ i = t)))
    (ok : zk_RF h i w t = 0 → post 0 (N, l, upd (upd c (4 * 24 + p) (zk_NI h i t)) (5 * 24 + p) (zk_NW h i w t)))
    (no : ¬ zk_RF h i w t = 0 → post (zk_RF h i w t) (N, l, c)) : wX_planPath_74 post (nI p) h i w t N l c := by
  unfold wX_planPath_74
  unfold zk_RF zk_NI zk_NW at ok
  unfold zk_RF at no
  rw [if_neg n1, if_neg n2] at no
  rw [if_neg n1, if_neg n2, if_neg n1, if_neg n1, if_neg n2] at ok
  by_cases z1 : i = t
  · rw [if_pos z1] at ok
    exact br_t z1 (zx_pe p hp (ok rfl))
  · rw [if_neg z1] at no
    refine br_f z1 ?_
    by_cases z2 : i = h
    · rw [if_neg (fun z => z z2)] at no
      refine br_t z2 ?_
      by_cases z3 : i = 0
      · rw [if_pos z3] at no
        exact br_t z3 (no (by decide))
      · rw [if_neg z3] at no
        exact br_f z3 (no (by decide))
    · rw [if_pos z2] at no
      exact br_f z2 (no (by decide))
theorem zx_pp {post : Int32 → St2 → Prop} {N l h i w t : Int32} {c : Nat → Int32} (p : Nat) (hp : p < 24) (eh : c (0 * 24 + p) = h) (ei : c (1 * 24 + p) = i) (ew : c (2 * 24 + p) = w) (et : c (3 * 24 + p) = t)
    (ok : zk_RF h i w t = 0 → post 0 (N, l, upd (upd c (4 * 24 + p) (zk_NI h i t)) (5 * 24 + p) (zk_NW h i w t)))
    (no : ¬ zk_RF h i w t = 0 → post (zk_RF h i w t) (N, l, c)) : wpX_planPath post (N, l, c) (nI p) := by
  unfold wpX_planPath
  dsimp only
  refine zx_get 0 p (by omega) hp eh (zx_get 1 p (by omega) hp ei (zx_get 2 p (by omega) hp ew (zx_get 3 p (by omega) hp et ?_)))
  by_cases n1 : h = t
  · unfold zk_RF zk_NI zk_NW at ok
    rw [if_pos n1, if_pos n1, if_pos n1] at ok
    exact br_t n1 (zx_pe p hp (ok rfl))
  · refine br_f n1 ?_
    by_cases n2 : w = i ∧ (i = h ∨ i = t)
    · unfold zk_RF zk_NI zk_NW at ok
      rw [if_neg n1, if_pos n2, if_neg n1, if_neg n1, if_pos n2] at ok
      refine br_t n2.1 ?_
      have k : wX_planPath_63 post (nI p) t N l c := by
        unfold wX_planPath_63
        exact zx_pe p hp (ok rfl)
      by_cases z : i = h
      · exact br_t z k
      · exact br_f z (br_t (n2.2.resolve_left z) k)
    · have k := zx_pp74 (post := post) (p := p) hp n1 n2 ok no
      by_cases z : w = i
      · refine br_t z (br_f (fun z2 => n2 ⟨z, Or.inl z2⟩) (br_f (fun z2 => n2 ⟨z, Or.inr z2⟩) k))
      · exact br_f z k
theorem zx_h57 {post J : Int32 → Prop} {N l : Int32} {c : Nat → Int32} {i : Nat} {a b : Bool} (ht : (a || b) = true → post (nI i)) (hf : (a || b) = false → J (nI (i + 1))) : wX_firstHidingPath_57 post J (nI i) (zk_b a) (zk_b b) N l c := by
  unfold wX_firstHidingPath_57
  cases a with
  | true => exact br_f (by decide) (ht rfl)
  | false =>
    cases b with
    | true => exact br_t rfl (br_f (by decide) (ht rfl))
    | false => exact br_t rfl (br_t rfl (nm_r (nI_1 i) (hf rfl)))
theorem zx_h33 {post J : Int32 → Prop} {l : Int32} {c : Nat → Int32} {n i : Nat} {a : Bool} (hi : i < n) (hn : n ≤ 24)
    (ht : (a || (!decide (c (5 * 24 + i) = 0) && zk_fb n (fun q => c (5 * 24 + q)) i)) = true → post (nI i))
    (hf : (a || (!decide (c (5 * 24 + i) = 0) && zk_fb n (fun q => c (5 * 24 + q)) i)) = false → J (nI (i + 1))) : wX_firstHidingPath_33 post J (nI i) (zk_b a) (nI n) l c := by
  unfold wX_firstHidingPath_33
  refine zx_get 5 i (by omega) (by omega) rfl ?_
  by_cases z : c (5 * 24 + i) = 0
  · rw [zk_nd0 z, Bool.false_and] at ht hf
    refine br_t z ?_
    unfold wX_firstHidingPath_56
    exact zx_h57 (b := false) ht hf
  · rw [zk_nd z, Bool.true_and] at ht hf
    refine br_f z (zx_fb 5 i (by omega) hi hn ?_)
    cases e : zk_fb n (fun q => c (5 * 24 + q)) i with
    | true =>
      rw [e] at ht hf
      exact br_f (by decide) (zx_h57 (b := true) ht hf)
    | false =>
      rw [e] at ht hf
      refine br_t rfl ?_
      unfold wX_firstHidingPath_56
      exact zx_h57 (b := false) ht hf
theorem zx_h2 {post : Int32 → Prop} {l : Int32} {c : Nat → Int32} {n : Nat} (hn : n ≤ 24) : ∀ d i, i + d = n → (zk_fst (zk_gh n (fun q => c (4 * 24 + q)) (fun q => c (5 * 24 + q))) d i < n → post (nI (zk_fst (zk_gh n (fun q => c (4 * 24 + q)) (fun q => c (5 * 24 + q))) d i))) → (¬ zk_fst (zk_gh n (fun q => c (4 * 24 + q)) (fun q => c (5 * 24 + q))) d i < n → post (-1)) → wX_firstHidingPath_2 post (nI n) l c (d + 1) (nI i) := by
  intro d
  induction d with
  | zero =>
    intro i hi _ h
    exact br_t (nI_le (a := n) (b := i) (by omega) (by omega)) (h (by show ¬ i < n; omega))
  | succ d ih =>
    intro i hi ht hf
    have T : zk_gh n (fun q => c (4 * 24 + q)) (fun q => c (5 * 24 + q)) i = true → post (nI i) := by
      intro e
      rw [zk_fst_t e] at ht
      exact ht (by omega)
    have F : zk_gh n (fun q => c (4 * 24 + q)) (fun q => c (5 * 24 + q)) i = false → wX_firstHidingPath_2 post (nI n) l c (d + 1) (nI (i + 1)) := by
      intro e
      rw [zk_fst_f e] at ht hf
      exact ih (i + 1) (by omega) ht hf
    unfold zk_gh at T F
    refine br_f (nI_ge (a := i) (b := n) (by omega) (by omega)) (zx_get 4 i (by omega) (by omega) rfl ?_)
    by_cases z : c (4 * 24 + i) = 0
    · rw [zk_nd0 z, Bool.false_and] at T F
      refine br_t z ?_
      unfold wX_firstHidingPath_32
      exact zx_h33 (a := false) (by omega) hn T F
    · rw [zk_nd z, Bool.true_and] at T F
      refine br_f z (zx_fb 4 i (by omega) (by omega) hn ?_)
      cases e : zk_fb n (fun q => c (4 * 24 + q)) i with
      | true =>
        rw [e] at T F
        exact br_f (by decide) (zx_h33 (a := true) (by omega) hn T F)
      | false =>
        rw [e] at T F
        refine br_t rfl ?_
        unfold wX_firstHidingPath_32
        exact zx_h33 (a := false) (by omega) hn T F
theorem zx_hid {post : Int32 → Prop} {l : Int32} {c A B : Nat → Int32} {n : Nat} (hn : n ≤ 24) (hA : ∀ q, q < n → c (4 * 24 + q) = A q) (hB : ∀ q, q < n → c (5 * 24 + q) = B q) (ht : zk_h n A B < n → post (nI (zk_h n A B))) (hf : ¬ zk_h n A B < n → post (-1)) : wpX_firstHidingPath post (nI n, l, c) := by
  unfold wpX_firstHidingPath
  dsimp only
  rw [← zk_h_c hA hB] at ht hf
  exact ⟨n + 1, zx_h2 hn n 0 (by omega) ht hf⟩
theorem zx_ps2 {post : Int32 → St2 → Prop} {l : Int32} {c H I W T : Nat → Int32} {n : Nat} (hn : n ≤ 24) (eH : ∀ q, q < n → c (0 * 24 + q) = H q) (eI : ∀ q, q < n → c (1 * 24 + q) = I q) (eW : ∀ q, q < n → c (2 * 24 + q) = W q) (eT : ∀ q, q < n → c (3 * 24 + q) = T q) : ∀ d i, i + d = n →
    (∀ m, m = zk_fst (zk_gr H I W T) d i → m < n → post (zk_RF (H m) (I m) (W m) (T m)) (nI n, nI m, zk_pl (zk_ni H I T) (zk_nw H I W T) c m)) →
    (zk_fst (zk_gr H I W T) d i = n → zk_h n (zk_ni H I T) (zk_nw H I W T) < n → post 4 (nI n, nI (zk_h n (zk_ni H I T) (zk_nw H I W T)), zk_pl (zk_ni H I T) (zk_nw H I W T) c n)) →
    (zk_fst (zk_gr H I W T) d i = n → ¬ zk_h n (zk_ni H I T) (zk_nw H I W T) < n → post 0 (nI n, -1, zk_pl (zk_ni H I T) (zk_nw H I W T) c n)) →
    wX_planSafe_2 post (d + 1) (nI i) (nI n) l (zk_pl (zk_ni H I T) (zk_nw H I W T) c i) := by
  intro d
  induction d with
  | zero =>
    intro i hi _ h4 h0
    have e : i = n := by omega
    subst e
    refine br_t (nI_le (Nat.le_refl i) (by omega)) (zx_hid hn (fun q hq => zk_pl_4 hq hn) (fun q hq => zk_pl_5 hq) (fun z => ?_) (fun z => ?_))
    · refine br_f (fun e => ?_) (h4 rfl z)
      have p := nI_pos (n := zk_h i (zk_ni H I T) (zk_nw H I W T)) (by omega)
      rw [e] at p
      exact p (by decide)
    · exact br_t rfl (h0 rfl z)
  | succ d ih =>
    intro i hi hr h4 h0
    refine br_f (nI_ge (a := i) (b := n) (by omega) (by omega)) (zx_pp i (by omega) ((zk_pl_k 0 (by omega) (by omega)).trans (eH i (by omega))) ((zk_pl_k 1 (by omega) (by omega)).trans (eI i (by omega))) ((zk_pl_k 2 (by omega) (by omega)).trans (eW i (by omega))) ((zk_pl_k 3 (by omega) (by omega)).trans (eT i (by omega))) (fun z => ?_) (fun z => ?_))
    · have g : zk_gr H I W T i = false := zk_nd0 z
      rw [zk_fst_f g] at hr h4 h0
      refine br_t rfl (nm_r (nI_1 i) ?_)
      rw [zk_pl_up (A := zk_ni H I T) (B := zk_nw H I W T) (a := zk_NI (H i) (I i) (T i)) (b := zk_NW (H i) (I i) (W i) (T i)) (by omega) rfl rfl]
      exact ih (i + 1) (by omega) hr h4 h0
    · have g : zk_gr H I W T i = true := zk_nd z
      rw [zk_fst_t g] at hr
      exact br_f z (hr i rfl (by omega))
theorem zx_ps {post : Int32 → St2 → Prop} {l : Int32} {c H I W T : Nat → Int32} {n : Nat} (hn : n ≤ 24) (eH : ∀ q, q < n → c (0 * 24 + q) = H q) (eI : ∀ q, q < n → c (1 * 24 + q) = I q) (eW : ∀ q, q < n → c (2 * 24 + q) = W q) (eT : ∀ q, q < n → c (3 * 24 + q) = T q) (h : post (zk_pa n H I W T) (nI n, zk_pr n H I W T, zk_pl (zk_ni H I T) (zk_nw H I W T) c (zk_m n H I W T))) : wpX_planSafe post (nI n, l, c) := by
  unfold wpX_planSafe
  dsimp only
  have le : zk_m n H I W T ≤ 0 + n := zk_fst_le n 0
  have k := zx_ps2 (post := post) (l := l) (c := c) hn eH eI eW eT n 0 (by omega) (fun m em hm => ?_) (fun em hh => ?_) (fun em hh => ?_)
  · rw [zk_pl_0] at k
    exact ⟨n + 1, k⟩
  · have em' : zk_m n H I W T = m := em.symm
    unfold zk_pa zk_pr at h
    rw [em', if_pos hm, if_pos hm] at h
    exact h
  · have em' : zk_m n H I W T = n := em
    unfold zk_pa zk_pr at h
    rw [em', if_neg (Nat.lt_irrefl n), if_neg (Nat.lt_irrefl n), if_pos hh, if_pos hh] at h
    exact h
  · have em' : zk_m n H I W T = n := em
    unfold zk_pa zk_pr at h
    rw [em', if_neg (Nat.lt_irrefl n), if_neg (Nat.lt_irrefl n), if_neg hh, if_neg hh] at h
    exact h
theorem zx_s15 {post : Int32 → St2 → Prop} {l z : Int32} {c : Nat → Int32} {n : Nat} (hn : n ≤ 24) (h0 : z = 0 → post z (nI n, l, zk_ap n c)) (h1 : ¬ z = 0 → post z (nI n, l, c)) : wX_switchTo_15 post z (nI n) l c := by
  unfold wX_switchTo_15
  by_cases e : z = 0
  · exact br_t e (zx_cp 3 0 (by omega) (by omega) (by omega) hn (zx_cp 4 1 (by omega) (by omega) (by omega) hn (zx_cp 5 2 (by omega) (by omega) (by omega) hn (h0 e))))
  · exact br_f e (h1 e)
theorem zx_sw0 {post : Int32 → St2 → Prop} {l : Int32} {c H I W T : Nat → Int32} {n : Nat} (hn : n ≤ 24) (eH : ∀ q, q < n → c (0 * 24 + q) = H q) (eI : ∀ q, q < n → c (1 * 24 + q) = I q) (eW : ∀ q, q < n → c (2 * 24 + q) = W q) (eT : ∀ q, q < n → c (3 * 24 + q) = T q)
    (h0 : zk_pa n H I W T = 0 → post (zk_pa n H I W T) (nI n, zk_pr n H I W T, zk_ap n (zk_pl (zk_ni H I T) (zk_nw H I W T) c (zk_m n H I W T))))
    (h1 : ¬ zk_pa n H I W T = 0 → post (zk_pa n H I W T) (nI n, zk_pr n H I W T, zk_pl (zk_ni H I T) (zk_nw H I W T) c (zk_m n H I W T))) : wpX_switchTo post (nI n, l, c) 0 := by
  unfold wpX_switchTo
  dsimp only
  exact br_t rfl (zx_ps hn eH eI eW eT (zx_s15 hn h0 h1))
theorem zx_sw1 {post : Int32 → St2 → Prop} {l : Int32} {c : Nat → Int32} {n : Nat} (hn : n ≤ 24)
    (h : post 0 (nI n, -1, zk_ap n (zk_pl (fun q => c (3 * 24 + q)) (zk_fw n (fun q => c (0 * 24 + q)) (fun q => c (1 * 24 + q)) (fun q => c (2 * 24 + q)) (fun q => c (3 * 24 + q))) c n))) : wpX_switchTo post (nI n, l, c) 1 := by
  unfold wpX_switchTo
  dsimp only
  exact br_f (by decide) (zx_pf hn (zx_s15 hn (fun _ => h) (fun z => absurd rfl z)))
end ZXD
section ZXE
/-! the readers -/
theorem zx_entry {post : Int32 → Prop} {l : Int32} {c : Nat → Int32} {n : Nat} (t p : Nat) (ht : t < 4) (hp : p < n) (hn : n ≤ 24) (h : post (c (t * 24 + p))) : wpX_entry post (nI n, l, c) (nI t) (nI p) := by
  unfold wpX_entry
  dsimp only
  exact zx_it1 ht (br_f (by decide) (zx_ip1 hp hn (br_f (by decide) (zx_get t p (by omega) (by omega) rfl h))))
theorem zx_entry0 {post : Int32 → Prop} {l x y : Int32} {c : Nat → Int32} {n : Nat} (hx : x < 0 ∨ 3 < x) (h : post (-1)) : wpX_entry post (nI n, l, c) x y := by
  unfold wpX_entry
  dsimp only
  exact zx_it0 hx (br_t rfl h)
theorem zx_entry1 {post : Int32 → Prop} {l y : Int32} {c : Nat → Int32} {n : Nat} (t : Nat) (ht : t < 4) (hy : y < 0 ∨ nI n ≤ y) (h : post (-1)) : wpX_entry post (nI n, l, c) (nI t) y := by
  unfold wpX_entry
  dsimp only
  exact zx_it1 ht (br_f (by decide) (zx_ip0 hy (br_t rfl h)))
end ZXE
