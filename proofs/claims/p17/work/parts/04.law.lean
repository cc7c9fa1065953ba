section ZLA
/-! a plan that is not refused refuses no path; what it makes of a path -/
theorem zk_fst_hi {g : Nat → Bool} : ∀ d i, zk_fst g d i < i + d → g (zk_fst g d i) = true := by
  intro d
  induction d with
  | zero =>
    intro i h
    exact absurd (show i < i + 0 from h) (by omega)
  | succ d ih =>
    intro i h
    cases e : g i with
    | true =>
      rw [zk_fst_t e]
      exact e
    | false =>
      rw [zk_fst_f e] at h ⊢
      exact ih (i + 1) (by omega)
theorem zk_pa0 {n : Nat} {H I W T : Nat → Int32} (h : zk_pa n H I W T = 0) : zk_m n H I W T = n := by
  have le : zk_m n H I W T ≤ 0 + n := zk_fst_le n 0
  by_cases e : zk_m n H I W T < n
  · have g : zk_gr H I W T (zk_m n H I W T) = true := zk_fst_hi n 0 (by show zk_m n H I W T < 0 + n; omega)
    unfold zk_pa at h
    rw [if_pos e] at h
    unfold zk_gr at g
    rw [zk_nd0 h] at g
    exact absurd g (by decide)
  · omega
theorem zl_rf {n q : Nat} {H I W T : Nat → Int32} (h : zk_pa n H I W T = 0) (hq : q < n) : zk_RF (H q) (I q) (W q) (T q) = 0 := by
  have g : zk_gr H I W T q = false := zk_fst_lo n 0 q (by omega) (by show q < zk_m n H I W T; rw [zk_pa0 h]; exact hq)
  unfold zk_gr at g
  rw [Bool.not_eq_false', decide_eq_true_eq] at g
  exact g
theorem zl_ok {h i w t : Int32} (r : zk_RF h i w t = 0) : (zk_NI h i t = i ∨ zk_NI h i t = t) ∧ (i = h ∨ zk_NI h i t = i) ∧ (zk_NW h i w t = w ∨ zk_NW h i w t = t) ∧ (w = h ∨ zk_NW h i w t = w) := by
  unfold zk_RF at r
  unfold zk_NI zk_NW
  by_cases n1 : h = t
  · rw [if_pos n1, if_pos n1]
    exact ⟨Or.inl rfl, Or.inr rfl, Or.inl rfl, Or.inr rfl⟩
  · rw [if_neg n1] at r
    rw [if_neg n1, if_neg n1]
    by_cases n2 : w = i ∧ (i = h ∨ i = t)
    · rw [if_pos n2]
      obtain ⟨a, b | b⟩ := n2
      · exact ⟨Or.inr rfl, Or.inl b, Or.inr rfl, Or.inl (a.trans b)⟩
      · exact ⟨Or.inr rfl, Or.inr b.symm, Or.inr rfl, Or.inr (a.trans b).symm⟩
    · rw [if_neg n2] at r
      rw [if_neg n2]
      by_cases z : i = t
      · exact ⟨Or.inr rfl, Or.inr z.symm, Or.inl rfl, Or.inr rfl⟩
      · rw [if_neg z] at r
        by_cases z2 : i = h
        · rw [if_neg (fun y => y z2)] at r
          by_cases z3 : i = 0
          · rw [if_pos z3] at r
            exact absurd r (by decide)
          · rw [if_neg z3] at r
            exact absurd r (by decide)
        · rw [if_pos z2] at r
          exact absurd r (by decide)
end ZLA
section ZLB
/-! the law's own steps -/
def zl_v (L : Nat) (xs : Nat → Int32) (j : Nat) : Int32 := if L ≤ j then 0 else xs j
theorem zl_cell {post : Int32 → Prop} {L : Nat} {xs : Nat → Int32} {x : Int32} (j : Nat) (hx : x = nI j) (hL : L ≤ 260) (hj : j < 2 ^ 31) (h : post (zl_v L xs j)) : wpL_cell post L xs () x := by
  subst hx
  unfold wpL_cell
  unfold zl_v at h
  by_cases e : L ≤ j
  · rw [if_pos e] at h
    exact br_t (nI_le e hj) h
  · rw [if_neg e] at h
    refine br_f (nI_ge (a := j) (b := L) (by omega) (by omega)) ⟨vp_in_nI (by omega) (by omega), ?_⟩
    rw [nI_clamp hj]
    exact h
theorem zl_i1 (k : Nat) : 1 + 3 * nI k = nI (1 + 3 * k) := by
  rw [show (3 : Int32) = nI 3 from rfl, pk_mul, show (1 : Int32) = nI 1 from rfl, nI_add]
theorem zl_i2 (k : Nat) : 2 + 3 * nI k = nI (2 + 3 * k) := by
  rw [show (3 : Int32) = nI 3 from rfl, pk_mul, show (2 : Int32) = nI 2 from rfl, nI_add]
theorem zl_i3 (k : Nat) : 3 + 3 * nI k = nI (3 + 3 * k) := by
  rw [show (3 : Int32) = nI 3 from rfl, pk_mul, nI_add]
theorem zl_493 {post : Int32 → Prop} {L : Nat} {xs : Nat → Int32} {J59 : Int32 → Int32 → Int32 → (Nat → Int32) → Int32 → Int32 → (Nat → Int32) → Prop} {J315 : Int32 → Prop} {x4 x5 x6 x11 h w w2 f g f' g' : Int32} {kc ks i : Nat} {a a' : Nat → Int32} (c4 : w = h ∨ w2 = w) (nx : J315 (nI (i + 1))) : wL_law_493 post L xs J59 J315 x4 x5 x6 x11 (nI i) h w w2 kc ks f g a f' g' a' := by
  unfold wL_law_493
  by_cases e : w = h
  · exact br_t e (nm_r (nI_1 i) nx)
  · exact br_f e (br_t (c4.resolve_left e) (nm_r (nI_1 i) nx))
theorem zl_477 {post : Int32 → Prop} {L : Nat} {xs : Nat → Int32} {J59 : Int32 → Int32 → Int32 → (Nat → Int32) → Int32 → Int32 → (Nat → Int32) → Prop} {J315 : Int32 → Prop} {x4 x5 x6 x11 h w t w2 f g f' g' : Int32} {kc ks i : Nat} {a a' : Nat → Int32} (c3 : w2 = w ∨ w2 = t) (c4 : w = h ∨ w2 = w) (nx : J315 (nI (i + 1))) : wL_law_477 post L xs J59 J315 x4 x5 x6 x11 (nI i) h w t w2 kc ks f g a f' g' a' := by
  unfold wL_law_477
  by_cases e : w2 = w
  · exact br_t e (zl_493 c4 nx)
  · exact br_f e (br_t (c3.resolve_left e) (zl_493 c4 nx))
theorem zl_461 {post : Int32 → Prop} {L : Nat} {xs : Nat → Int32} {J59 : Int32 → Int32 → Int32 → (Nat → Int32) → Int32 → Int32 → (Nat → Int32) → Prop} {J315 : Int32 → Prop} {x4 x5 x6 x11 h i0 w t i2 w2 f g f' g' : Int32} {kc ks i : Nat} {a a' : Nat → Int32} (c2 : i0 = h ∨ i2 = i0) (c3 : w2 = w ∨ w2 = t) (c4 : w = h ∨ w2 = w) (nx : J315 (nI (i + 1))) : wL_law_461 post L xs J59 J315 x4 x5 x6 x11 (nI i) h i0 w t i2 w2 kc ks f g a f' g' a' := by
  unfold wL_law_461
  by_cases e : i0 = h
  · exact br_t e (zl_477 c3 c4 nx)
  · exact br_f e (br_t (c2.resolve_left e) (zl_477 c3 c4 nx))
/-- what the law asks of one path: x 0: refused, nothing changed; else the switch lost nothing -/
def zl_C (x h i w t h2 i2 w2 t2 : Int32) : Prop := (x = 0 → h2 = h ∧ i2 = i ∧ w2 = w ∧ t2 = t) ∧ (¬ x = 0 → h2 = t ∧ t2 = t ∧ (i2 = i ∨ i2 = t) ∧ (i = h ∨ i2 = i) ∧ (w2 = w ∨ w2 = t) ∧ (w = h ∨ w2 = w))
theorem zl_315 {post : Int32 → Prop} {L : Nat} {xs : Nat → Int32} {J : Int32 → Int32 → Int32 → (Nat → Int32) → Int32 → Int32 → (Nat → Int32) → Prop} {n k kc ks : Nat} {x5 x11 l la r' l' : Int32} {c ca c' : Nat → Int32} (hn : n ≤ 24)
    (hJ : J (nI (k + 1)) (nI n) la ca (nI n) l' c')
    (hb : ∀ P : Int32 → St2 → Prop, P r' (nI n, l', c') → wpX_switchTo P (nI n, l, c) 0)
    (hq : ∀ q, q < n → zl_C x11 (c (0 * 24 + q)) (c (1 * 24 + q)) (c (2 * 24 + q)) (c (3 * 24 + q)) (ca (0 * 24 + q)) (ca (1 * 24 + q)) (ca (2 * 24 + q)) (ca (3 * 24 + q))) :
    ∀ d i, i + d = n → wL_law_315 post L xs J (nI n) x5 (nI k) x11 kc ks (nI n) la ca (nI n) l c (d + 1) (nI i) := by
  intro d
  induction d with
  | zero =>
    intro i hi
    exact br_t (nI_le (a := n) (b := i) (by omega) (by omega)) (hb _ (nm_r (nI_1 k) hJ))
  | succ d ih =>
    intro i hi
    have nx := ih (i + 1) (by omega)
    have hp : i < n := by omega
    refine br_f (nI_ge (a := i) (b := n) (by omega) (by omega)) (zx_entry 0 i (by omega) hp hn (zx_entry 1 i (by omega) hp hn (zx_entry 2 i (by omega) hp hn (zx_entry 3 i (by omega) hp hn (zx_entry 0 i (by omega) hp hn (zx_entry 1 i (by omega) hp hn (zx_entry 2 i (by omega) hp hn (zx_entry 3 i (by omega) hp hn ?_))))))))
    refine br_c (fun z => ?_) (fun z => ?_)
    · obtain ⟨b0, b1, b2, b3⟩ := (hq i hp).1 z
      exact br_t b0 (br_t b1 (br_t b2 (br_t b3 (nm_r (nI_1 i) nx))))
    · obtain ⟨b0, b3, c1, c2, c3, c4⟩ := (hq i hp).2 z
      refine br_t b0 (br_t b3 ?_)
      by_cases e : ca (1 * 24 + i) = c (1 * 24 + i)
      · exact br_t e (zl_461 c2 c3 c4 nx)
      · exact br_f e (br_t (c1.resolve_left e) (zl_461 c2 c3 c4 nx))
theorem zl_check {post : Int32 → Prop} {L : Nat} {xs : Nat → Int32} {J : Int32 → Int32 → Int32 → (Nat → Int32) → Int32 → Int32 → (Nat → Int32) → Prop} {n k kc ks : Nat} {x5 l : Int32} {c : Nat → Int32} (hn : n ≤ 24) (hJ : ∀ l' c', J (nI (k + 1)) (nI n) l' c' (nI n) l' c') :
    wpX_switchTo (fun r u => match u with | (p, l1, c1) => (((r = 0 → (∃ fu : Nat, wL_law_315 post L xs J (nI n) x5 (nI k) 1 kc ks p l1 c1 (nI n) l c fu 0)) ∧ (¬ r = 0 → (∃ fu : Nat, wL_law_315 post L xs J (nI n) x5 (nI k) 0 kc ks p l1 c1 (nI n) l c fu 0))))) (nI n, l, c) 0 := by
  refine zx_sw0 (H := fun q => c (0 * 24 + q)) (I := fun q => c (1 * 24 + q)) (W := fun q => c (2 * 24 + q)) (T := fun q => c (3 * 24 + q)) hn (fun _ _ => rfl) (fun _ _ => rfl) (fun _ _ => rfl) (fun _ _ => rfl) (fun z => ?_) (fun z => ?_)
  · refine br_t z ⟨n + 1, zl_315 hn (hJ _ _) (fun P h => zx_sw0 (H := fun q => c (0 * 24 + q)) (I := fun q => c (1 * 24 + q)) (W := fun q => c (2 * 24 + q)) (T := fun q => c (3 * 24 + q)) hn (fun _ _ => rfl) (fun _ _ => rfl) (fun _ _ => rfl) (fun _ _ => rfl) (fun _ => h) (fun z' => absurd z z')) (fun q hq => ⟨fun y => absurd y (by decide), fun _ => ?_⟩) n 0 (by omega)⟩
    rw [zk_pa0 z]
    rw [zk_ap_0 hq hn, zk_ap_1 hq hn, zk_ap_2 hq hn, zk_ap_3 hq hn, zk_pl_k 3 (by omega) (by omega), zk_pl_4 hq hn, zk_pl_5 hq]
    have o := zl_ok (zl_rf (n := n) z hq)
    exact ⟨rfl, rfl, o.1, o.2.1, o.2.2.1, o.2.2.2⟩
  · refine br_f z ⟨n + 1, zl_315 hn (hJ _ _) (fun P h => zx_sw0 (H := fun q => c (0 * 24 + q)) (I := fun q => c (1 * 24 + q)) (W := fun q => c (2 * 24 + q)) (T := fun q => c (3 * 24 + q)) hn (fun _ _ => rfl) (fun _ _ => rfl) (fun _ _ => rfl) (fun _ _ => rfl) (fun z' => absurd z' z) (fun _ => h)) (fun q hq => ⟨fun _ => ?_, fun y => absurd rfl y⟩) n 0 (by omega)⟩
    rw [zk_pl_k 0 (by omega) (by omega), zk_pl_k 1 (by omega) (by omega), zk_pl_k 2 (by omega) (by omega), zk_pl_k 3 (by omega) (by omega)]
    exact ⟨rfl, rfl, rfl, rfl⟩
theorem zl_91 {post : Int32 → Prop} {L : Nat} {xs : Nat → Int32} {J : Int32 → Int32 → Int32 → (Nat → Int32) → Int32 → Int32 → (Nat → Int32) → Prop} {n k kc ks : Nat} {x5 z0 l : Int32} {c : Nat → Int32} (hL : L ≤ 260) (hk : k ≤ 100) (h8 : 8 ≤ n) (hn : n ≤ 24) (hJ : ∀ l' c', J (nI (k + 1)) (nI n) l' c' (nI n) l' c') : wL_law_91 post L xs J (nI n) x5 (nI k) z0 kc ks (nI n) l c (nI n) l c := by
  unfold wL_law_91
  refine zl_cell (2 + 3 * k) (zl_i2 k) hL (by omega) ⟨nI_ne0 (by omega) (by omega), ?_⟩
  obtain ⟨m, hm, em⟩ := pk_andE (zl_v L xs (2 + 3 * k)) (m := 31) 5 (by decide)
  have ep : (zl_v L xs (2 + 3 * k) &&& 31) - (zl_v L xs (2 + 3 * k) &&& 31) / nI n * nI n = nI (m % n) := by
    rw [em]
    exact pk_rem (by omega) (by omega) (by omega)
  have hp : m % n < n := Nat.mod_lt _ (by omega)
  refine nm_r ep (zl_cell (3 + 3 * k) (zl_i3 k) hL (by omega) (nm_e ?_))
  have k136 : wL_law_136 post L xs J (nI n) x5 (nI k) (nI (m % n)) (zl_v L xs (3 + 3 * k) &&& 3) kc ks (nI n) l c (nI n) l c := by
    unfold wL_law_136
    exact zx_write hp hn (zx_write hp hn (nm_r (nI_1 k) (hJ _ _)))
  refine br_c (fun _ => k136) (fun _ => br_c (fun _ => k136) (fun _ => br_c (fun _ => ?_) (fun _ => br_c (fun _ => ?_) (fun _ => br_c (fun _ => br_c (fun _ => ?_) (fun _ => ?_)) (fun _ => br_c (fun _ => ?_) (fun _ => br_c (fun _ => ?_) (fun _ => ?_)))))))
  · exact zx_delete hp hn (zx_delete hp hn (nm_r (nI_1 k) (hJ _ _)))
  · exact zx_stage hp hn (zx_stage hp hn (nm_r (nI_1 k) (hJ _ _)))
  · exact zx_commit hn (zx_commit hn (nm_r (nI_1 k) (hJ _ _)))
  · exact zx_sw1 hn (zx_sw1 hn (nm_r (nI_1 k) (hJ _ _)))
  · exact zx_setTarget hp hn (zx_setTarget hp hn (nm_r (nI_1 k) (hJ _ _)))
  · exact zx_tfh hn (zx_tfh hn (nm_r (nI_1 k) (hJ _ _)))
  · exact zl_check hn hJ
theorem zl_59 {post : Int32 → Prop} {L : Nat} {xs : Nat → Int32} {n S kc ks : Nat} (h1 : post 1) (hL : L ≤ 260) (hS : S ≤ 100) (h8 : 8 ≤ n) (hn : n ≤ 24) : ∀ d k l c, k + d = S + 1 → wL_law_59 post L xs (nI n) (nI S) kc ks (d + 1) (nI k) (nI n) l c (nI n) l c := by
  intro d
  induction d with
  | zero =>
    intro k l c hk
    exact br_t (nI_lt (a := S) (b := k) (by omega) (by omega)) h1
  | succ d ih =>
    intro k l c hk
    refine br_f (nI_nlt (a := S) (b := k) (by omega) (by omega)) (pk_eq k S (fun _ => ?_) (fun _ => ?_))
    · exact zl_91 hL (by omega) h8 hn (fun l' c' => ih (k + 1) l' c' (by omega))
    · exact zl_cell (1 + 3 * k) (zl_i1 k) hL (by omega) (zl_91 hL (by omega) h8 hn (fun l' c' => ih (k + 1) l' c' (by omega)))
theorem zl_init (x : Int32) : ∃ n : Nat, 8 ≤ n ∧ n ≤ 24 ∧ ∀ post : St2 → Prop, post (nI n, -1, fun _ => 0) → wpX_init post 1 144 (0, 0) x := by
  by_cases h8 : 8 ≤ x
  · by_cases h24 : x ≤ 24
    · obtain ⟨n, hn, rfl⟩ := nI_of2 (M := 24) (n := 24) (by decide) (Int32.not_lt.mpr (Int32.le_trans (by decide) h8)) h24
      refine ⟨n, (nI_leI (a := 8) (b := n) (by omega) (by omega)).mp h8, hn, fun post h => ?_⟩
      unfold wpX_init
      dsimp only
      exact ⟨by omega, by omega, br_t h8 (br_t h24 h)⟩
    · refine ⟨24, by omega, by omega, fun post h => ?_⟩
      unfold wpX_init
      dsimp only
      exact ⟨by omega, by omega, br_t h8 (br_f h24 h)⟩
  · refine ⟨8, by omega, by omega, fun post h => ?_⟩
    unfold wpX_init
    dsimp only
    exact ⟨by omega, by omega, br_f h8 h⟩
theorem zl_st (L : Nat) (hL : L ≤ 260) : (Int32.ofNat L - 1) / 3 = nI ((L - 1) / 3) := by
  cases L with
  | zero => decide
  | succ m =>
    show (nI (m + 1) - 1) / 3 = nI ((m + 1 - 1) / 3)
    rw [nI_pred, show (3 : Int32) = nI 3 from rfl, pk_div (by omega) (by omega) (by omega), Nat.add_sub_cancel]
end ZLB
