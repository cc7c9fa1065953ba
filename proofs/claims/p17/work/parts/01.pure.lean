section ZKB
/-! the ancestors: climbing by x / 4 - 1 -/
def zk_up (a : Nat) : Nat → Nat → Bool
  | 0, _ => false
  | k + 1, x => if x < 4 then false else if x / 4 - 1 = a then true else zk_up a k (x / 4 - 1)
def zk_an (a q : Nat) : Bool := zk_up a 8 q
theorem zk_an24 : ∀ a, a < 24 → ∀ q, q < 24 → zk_up a 24 q = zk_an a q := by decide +kernel
theorem zk_anlt : ∀ a, a < 24 → ∀ q, q < 24 → zk_an a q = true → a < q := by decide +kernel
def zk_b : Bool → Int32
  | true => 1
  | false => 0
theorem zk_b0 {x : Bool} (h : x = false) : zk_b x = 0 := by rw [h]; rfl
theorem zk_b1 {x : Bool} (h : x = true) : ¬ zk_b x = 0 := by rw [h]; decide
/-! scans: is there one, how many, which is the first -/
def zk_any (g : Nat → Bool) : Nat → Nat → Bool
  | 0, _ => false
  | d + 1, i => g i || zk_any g d (i + 1)
theorem zk_any_iff (g : Nat → Bool) : ∀ d i, zk_any g d i = true ↔ ∃ q, i ≤ q ∧ q < i + d ∧ g q = true := by
  intro d
  induction d with
  | zero =>
    intro i
    constructor
    · intro h
      exact absurd h (by simp [zk_any])
    · rintro ⟨q, a, b, _⟩
      omega
  | succ d ih =>
    intro i
    rw [zk_any, Bool.or_eq_true, ih]
    constructor
    · rintro (h | ⟨q, a, b, c⟩)
      · exact ⟨i, Nat.le_refl _, by omega, h⟩
      · exact ⟨q, by omega, by omega, c⟩
    · rintro ⟨q, a, b, c⟩
      by_cases e : q = i
      · exact Or.inl (e ▸ c)
      · exact Or.inr ⟨q, by omega, by omega, c⟩
theorem zk_any_eq {g g' : Nat → Bool} {d i d' i' : Nat} (h : (∃ q, i ≤ q ∧ q < i + d ∧ g q = true) ↔ ∃ q, i' ≤ q ∧ q < i' + d' ∧ g' q = true) : zk_any g d i = zk_any g' d' i' := by
  rw [Bool.eq_iff_iff, zk_any_iff, zk_any_iff]
  exact h
theorem zk_any_c {g g' : Nat → Bool} {d i : Nat} (h : ∀ q, i ≤ q → q < i + d → g q = g' q) : zk_any g d i = zk_any g' d i := by
  apply zk_any_eq
  constructor
  · rintro ⟨q, a, b, c⟩
    exact ⟨q, a, b, by rw [← h q a b]; exact c⟩
  · rintro ⟨q, a, b, c⟩
    exact ⟨q, a, b, by rw [h q a b]; exact c⟩
def zk_ga (f : Nat → Int32) (p q : Nat) : Bool := !decide (f q = 0) && zk_an q p
def zk_gb (f : Nat → Int32) (p q : Nat) : Bool := !decide (f q = 0) && zk_an p q
def zk_fa (n : Nat) (f : Nat → Int32) (p : Nat) : Bool := zk_any (zk_ga f p) n 0
def zk_fb (n : Nat) (f : Nat → Int32) (p : Nat) : Bool := zk_any (zk_gb f p) n 0
theorem zk_gaT {f : Nat → Int32} {p q : Nat} (h : zk_ga f p q = true) : ¬ f q = 0 ∧ zk_an q p = true := by
  unfold zk_ga at h
  rw [Bool.and_eq_true, Bool.not_eq_true', decide_eq_false_iff_not] at h
  exact h
theorem zk_gbT {f : Nat → Int32} {p q : Nat} (h : zk_gb f p q = true) : ¬ f q = 0 ∧ zk_an p q = true := by
  unfold zk_gb at h
  rw [Bool.and_eq_true, Bool.not_eq_true', decide_eq_false_iff_not] at h
  exact h
theorem zk_ga0 {f : Nat → Int32} {p q : Nat} (h : f q = 0) : zk_ga f p q = false := by
  unfold zk_ga
  rw [decide_eq_true h]
  rfl
theorem zk_gb0 {f : Nat → Int32} {p q : Nat} (h : f q = 0) : zk_gb f p q = false := by
  unfold zk_gb
  rw [decide_eq_true h]
  rfl
theorem zk_ga1 {f : Nat → Int32} {p q : Nat} (h : ¬ f q = 0) : zk_ga f p q = zk_an q p := by
  unfold zk_ga
  rw [decide_eq_false h]
  rfl
theorem zk_gb1 {f : Nat → Int32} {p q : Nat} (h : ¬ f q = 0) : zk_gb f p q = zk_an p q := by
  unfold zk_gb
  rw [decide_eq_false h]
  rfl
theorem zk_fa_x {n p : Nat} {f : Nat → Int32} (hp : p < n) (hn : n ≤ 24) : zk_any (zk_ga f p) p 0 = zk_fa n f p := by
  apply zk_any_eq
  constructor
  · rintro ⟨q, a, b, c⟩
    exact ⟨q, a, by omega, c⟩
  · rintro ⟨q, a, b, c⟩
    have := zk_anlt q (by omega) p (by omega) (zk_gaT c).2
    exact ⟨q, a, by omega, c⟩
theorem zk_fb_x {n p : Nat} {f : Nat → Int32} (hp : p < n) (hn : n ≤ 24) : zk_any (zk_gb f p) (n - (p + 1)) (p + 1) = zk_fb n f p := by
  apply zk_any_eq
  constructor
  · rintro ⟨q, a, b, c⟩
    exact ⟨q, by omega, by omega, c⟩
  · rintro ⟨q, a, b, c⟩
    have := zk_anlt p (by omega) q (by omega) (zk_gbT c).2
    exact ⟨q, by omega, by omega, c⟩
theorem zk_fa_c {n p : Nat} {f g : Nat → Int32} (h : ∀ q, q < n → f q = g q) : zk_fa n f p = zk_fa n g p := by
  apply zk_any_c
  intro q _ b
  unfold zk_ga
  rw [h q (by omega)]
theorem zk_fb_c {n p : Nat} {f g : Nat → Int32} (h : ∀ q, q < n → f q = g q) : zk_fb n f p = zk_fb n g p := by
  apply zk_any_c
  intro q _ b
  unfold zk_gb
  rw [h q (by omega)]
def zk_cn (g : Nat → Bool) : Nat → Nat → Nat
  | 0, _ => 0
  | d + 1, i => (if g i = true then 1 else 0) + zk_cn g d (i + 1)
theorem zk_cn_c {g g' : Nat → Bool} : ∀ d i, (∀ q, i ≤ q → q < i + d → g q = g' q) → zk_cn g d i = zk_cn g' d i := by
  intro d
  induction d with
  | zero => intro i _; rfl
  | succ d ih =>
    intro i h
    rw [zk_cn, zk_cn, h i (Nat.le_refl _) (by omega), ih (i + 1) (fun q a b => h q (by omega) (by omega))]
theorem zk_cn_t {g : Nat → Bool} {d i : Nat} (h : g i = true) : zk_cn g (d + 1) i = 1 + zk_cn g d (i + 1) := by
  rw [zk_cn, if_pos h]
theorem zk_cn_f {g : Nat → Bool} {d i : Nat} (h : g i = false) : zk_cn g (d + 1) i = zk_cn g d (i + 1) := by
  rw [zk_cn, h, if_neg (by decide), Nat.zero_add]
theorem zk_cn_skip {g : Nat → Bool} : ∀ a d i, (∀ q, i ≤ q → q < i + a → g q = false) → zk_cn g (d + a) i = zk_cn g d (i + a) := by
  intro a
  induction a with
  | zero => intro d i _; rfl
  | succ a ih =>
    intro d i h
    rw [show d + (a + 1) = (d + a) + 1 from by omega, zk_cn_f (h i (Nat.le_refl _) (by omega)), ih d (i + 1) (fun q x y => h q (by omega) (by omega))]
    exact congrArg (zk_cn g d) (by omega)
def zk_fst (g : Nat → Bool) : Nat → Nat → Nat
  | 0, i => i
  | d + 1, i => if g i = true then i else zk_fst g d (i + 1)
theorem zk_fst_t {g : Nat → Bool} {d i : Nat} (h : g i = true) : zk_fst g (d + 1) i = i := by
  rw [zk_fst, if_pos h]
theorem zk_fst_f {g : Nat → Bool} {d i : Nat} (h : g i = false) : zk_fst g (d + 1) i = zk_fst g d (i + 1) := by
  rw [zk_fst, h, if_neg (by decide)]
theorem zk_fst_c {g g' : Nat → Bool} : ∀ d i, (∀ q, i ≤ q → q < i + d → g q = g' q) → zk_fst g d i = zk_fst g' d i := by
  intro d
  induction d with
  | zero => intro i _; rfl
  | succ d ih =>
    intro i h
    rw [zk_fst, zk_fst, h i (Nat.le_refl _) (by omega), ih (i + 1) (fun q a b => h q (by omega) (by omega))]
theorem zk_fst_le {g : Nat → Bool} : ∀ d i, zk_fst g d i ≤ i + d := by
  intro d
  induction d with
  | zero => intro i; exact Nat.le_refl _
  | succ d ih =>
    intro i
    rw [zk_fst]
    split
    · omega
    · have := ih (i + 1)
      omega
theorem zk_fst_lo {g : Nat → Bool} : ∀ d i q, i ≤ q → q < zk_fst g d i → g q = false := by
  intro d
  induction d with
  | zero =>
    intro i q a b
    have b' : q < i := b
    omega
  | succ d ih =>
    intro i q a b
    rw [zk_fst] at b
    split at b
    · omega
    · rename_i h
      by_cases e : q = i
      · rw [e]
        exact Bool.eq_false_iff.mpr h
      · exact ih (i + 1) q (by omega) b
end ZKB
section ZKC
/-! a range of a store written over: from b on, i cells hold F -/
def zk_rw (b : Nat) (F c : Nat → Int32) (i : Nat) : Nat → Int32 := fun j => if b ≤ j ∧ j < b + i then F (j - b) else c j
theorem zk_rw_in {b : Nat} {F c : Nat → Int32} {i q : Nat} (h : q < i) : zk_rw b F c i (b + q) = F q := by
  unfold zk_rw
  rw [if_pos ⟨by omega, by omega⟩, Nat.add_sub_cancel_left]
theorem zk_rw_out {b : Nat} {F c : Nat → Int32} {i j : Nat} (h : j < b ∨ b + i ≤ j) : zk_rw b F c i j = c j := by
  unfold zk_rw
  rw [if_neg (by omega)]
theorem zk_rw_0 {b : Nat} {F c : Nat → Int32} : zk_rw b F c 0 = c := by
  funext j
  exact zk_rw_out (by omega)
theorem zk_rw_id {b : Nat} {F c : Nat → Int32} {i : Nat} (h : ∀ q, q < i → F q = c (b + q)) : zk_rw b F c i = c := by
  funext j
  unfold zk_rw
  by_cases e : b ≤ j ∧ j < b + i
  · rw [if_pos e, h (j - b) (by omega)]
    exact congrArg c (by omega)
  · rw [if_neg e]
theorem zk_rw_up {b : Nat} {F c : Nat → Int32} {i k : Nat} {v : Int32} (hk : k = b + i) (hv : v = F i) : upd (zk_rw b F c i) k v = zk_rw b F c (i + 1) := by
  subst hk hv
  funext j
  unfold upd zk_rw
  by_cases e : j = b + i
  · subst e
    rw [if_pos rfl, if_pos ⟨by omega, by omega⟩, Nat.add_sub_cancel_left]
  · rw [if_neg e]
    by_cases h : b ≤ j ∧ j < b + i
    · rw [if_pos h, if_pos ⟨h.1, by omega⟩]
    · rw [if_neg h, if_neg (by omega)]
theorem zk_rw_st {b : Nat} {F c : Nat → Int32} {i : Nat} (h : F i = c (b + i)) : zk_rw b F c i = zk_rw b F c (i + 1) := by
  funext j
  unfold zk_rw
  by_cases e : j = b + i
  · subst e
    rw [if_neg (by omega), if_pos ⟨by omega, by omega⟩, Nat.add_sub_cancel_left, h]
  · by_cases h : b ≤ j ∧ j < b + i
    · rw [if_pos h, if_pos ⟨h.1, by omega⟩]
    · rw [if_neg h, if_neg (by omega)]
theorem zk_rw_cm {b : Nat} {F c : Nat → Int32} {i k : Nat} {v : Int32} (h : k < b ∨ b + i ≤ k) : upd (zk_rw b F c i) k v = zk_rw b F (upd c k v) i := by
  funext j
  by_cases e : j = k
  · subst e
    rw [pk_us, zk_rw_out h, pk_us]
  · rw [pk_un e]
    unfold zk_rw
    rw [pk_un e]
end ZKC
section ZKD
/-! one path's plan -/
def zk_RF (h i w t : Int32) : Int32 := if h = t then 0 else if w = i ∧ (i = h ∨ i = t) then 0 else if i = t then 0 else if ¬ i = h then 1 else if i = 0 then 3 else 2
def zk_NI (h i t : Int32) : Int32 := if h = t then i else t
def zk_NW (h i w t : Int32) : Int32 := if h = t then w else if w = i ∧ (i = h ∨ i = t) then t else w
def zk_ni (H I T : Nat → Int32) : Nat → Int32 := fun p => zk_NI (H p) (I p) (T p)
def zk_nw (H I W T : Nat → Int32) : Nat → Int32 := fun p => zk_NW (H p) (I p) (W p) (T p)
def zk_gr (H I W T : Nat → Int32) (p : Nat) : Bool := !decide (zk_RF (H p) (I p) (W p) (T p) = 0)
def zk_gh (n : Nat) (A B : Nat → Int32) (p : Nat) : Bool := (!decide (A p = 0) && zk_fb n A p) || (!decide (B p = 0) && zk_fb n B p)
def zk_m (n : Nat) (H I W T : Nat → Int32) : Nat := zk_fst (zk_gr H I W T) n 0
def zk_h (n : Nat) (A B : Nat → Int32) : Nat := zk_fst (zk_gh n A B) n 0
def zk_pa (n : Nat) (H I W T : Nat → Int32) : Int32 :=
  if zk_m n H I W T < n then zk_RF (H (zk_m n H I W T)) (I (zk_m n H I W T)) (W (zk_m n H I W T)) (T (zk_m n H I W T))
  else if zk_h n (zk_ni H I T) (zk_nw H I W T) < n then 4 else 0
def zk_pr (n : Nat) (H I W T : Nat → Int32) : Int32 :=
  if zk_m n H I W T < n then nI (zk_m n H I W T)
  else if zk_h n (zk_ni H I T) (zk_nw H I W T) < n then nI (zk_h n (zk_ni H I T) (zk_nw H I W T)) else -1
/-! the forced plan -/
def zk_fw (n : Nat) (H I W T : Nat → Int32) : Nat → Int32 := fun p =>
  if ¬ H p = 0 ∨ ¬ I p = 0 ∨ ¬ T p = 0 then T p else if zk_fa n T p = true ∨ zk_fb n T p = true then 0 else W p
theorem zk_gr_c {n : Nat} {H I W T H' I' W' T' : Nat → Int32} (hH : ∀ q, q < n → H q = H' q) (hI : ∀ q, q < n → I q = I' q) (hW : ∀ q, q < n → W q = W' q) (hT : ∀ q, q < n → T q = T' q) : zk_m n H I W T = zk_m n H' I' W' T' := by
  apply zk_fst_c
  intro q _ b
  unfold zk_gr
  rw [hH q (by omega), hI q (by omega), hW q (by omega), hT q (by omega)]
theorem zk_h_c {n : Nat} {A B A' B' : Nat → Int32} (hA : ∀ q, q < n → A q = A' q) (hB : ∀ q, q < n → B q = B' q) : zk_h n A B = zk_h n A' B' := by
  apply zk_fst_c
  intro q _ b
  unfold zk_gh
  rw [hA q (by omega), hB q (by omega), zk_fb_c hA, zk_fb_c hB]
theorem zk_ni_c {n : Nat} {H I T H' I' T' : Nat → Int32} (hH : ∀ q, q < n → H q = H' q) (hI : ∀ q, q < n → I q = I' q) (hT : ∀ q, q < n → T q = T' q) : ∀ q, q < n → zk_ni H I T q = zk_ni H' I' T' q := by
  intro q b
  unfold zk_ni
  rw [hH q b, hI q b, hT q b]
theorem zk_nw_c {n : Nat} {H I W T H' I' W' T' : Nat → Int32} (hH : ∀ q, q < n → H q = H' q) (hI : ∀ q, q < n → I q = I' q) (hW : ∀ q, q < n → W q = W' q) (hT : ∀ q, q < n → T q = T' q) : ∀ q, q < n → zk_nw H I W T q = zk_nw H' I' W' T' q := by
  intro q b
  unfold zk_nw
  rw [hH q b, hI q b, hW q b, hT q b]
theorem zk_fw_c {n : Nat} {H I W T H' I' W' T' : Nat → Int32} (hH : ∀ q, q < n → H q = H' q) (hI : ∀ q, q < n → I q = I' q) (hW : ∀ q, q < n → W q = W' q) (hT : ∀ q, q < n → T q = T' q) : ∀ q, q < n → zk_fw n H I W T q = zk_fw n H' I' W' T' q := by
  intro q b
  unfold zk_fw
  rw [hH q b, hI q b, hW q b, hT q b, zk_fa_c hT, zk_fb_c hT]
theorem zk_pa_c {n : Nat} {H I W T H' I' W' T' : Nat → Int32} (hH : ∀ q, q < n → H q = H' q) (hI : ∀ q, q < n → I q = I' q) (hW : ∀ q, q < n → W q = W' q) (hT : ∀ q, q < n → T q = T' q) : zk_pa n H I W T = zk_pa n H' I' W' T' := by
  unfold zk_pa
  rw [zk_gr_c hH hI hW hT, zk_h_c (zk_ni_c hH hI hT) (zk_nw_c hH hI hW hT)]
  by_cases e : zk_m n H' I' W' T' < n
  · rw [if_pos e, if_pos e, hH _ e, hI _ e, hW _ e, hT _ e]
  · rw [if_neg e, if_neg e]
theorem zk_pr_c {n : Nat} {H I W T H' I' W' T' : Nat → Int32} (hH : ∀ q, q < n → H q = H' q) (hI : ∀ q, q < n → I q = I' q) (hW : ∀ q, q < n → W q = W' q) (hT : ∀ q, q < n → T q = T' q) : zk_pr n H I W T = zk_pr n H' I' W' T' := by
  unfold zk_pr
  rw [zk_gr_c hH hI hW hT, zk_h_c (zk_ni_c hH hI hT) (zk_nw_c hH hI hW hT)]
/-! delete, stage, write: what they make of a tree -/
def zk_dF (p : Nat) (f : Nat → Int32) : Nat → Int32 := fun q => if q = p ∨ zk_an p q = true then 0 else f q
def zk_dg (p : Nat) (f : Nat → Int32) (q : Nat) : Bool := if q = p ∨ zk_an p q = true then !decide (f q = 0) else false
def zk_cF (p : Nat) (f : Nat → Int32) : Nat → Int32 := fun q => if zk_an q p = true ∨ zk_an p q = true then 0 else f q
def zk_ne (f g : Nat → Int32) (q : Nat) : Bool := !decide (f q = g q)
def zk_nz (f : Nat → Int32) (q : Nat) : Bool := !decide (f q = 0)
def zk_wo (n : Nat) (f : Nat → Int32) (p : Nat) (y : Int32) : Bool := if y < 1 then false else if y ≤ 1000 then (!zk_fa n f p && !zk_fb n f p) else false
def zk_to (n : Nat) (f : Nat → Int32) (p : Nat) (y : Int32) : Bool := if y < 0 then false else if y ≤ 1000 then (if y = 0 then true else !zk_fa n f p && !zk_fb n f p) else false
theorem zk_wo_c {n p : Nat} {f g : Nat → Int32} {y : Int32} (h : ∀ q, q < n → f q = g q) : zk_wo n f p y = zk_wo n g p y := by
  unfold zk_wo
  rw [zk_fa_c h, zk_fb_c h]
theorem zk_to_c {n p : Nat} {f g : Nat → Int32} {y : Int32} (h : ∀ q, q < n → f q = g q) : zk_to n f p y = zk_to n g p y := by
  unfold zk_to
  rw [zk_fa_c h, zk_fb_c h]
theorem zk_nd {x y : Int32} (h : ¬ x = y) : (!decide (x = y)) = true := by
  rw [decide_eq_false h]
  rfl
theorem zk_nd0 {x y : Int32} (h : x = y) : (!decide (x = y)) = false := by
  rw [decide_eq_true h]
  rfl
theorem zk_dg_t {p q : Nat} {f : Nat → Int32} (hm : q = p ∨ zk_an p q = true) (h : ¬ f q = 0) : zk_dg p f q = true := by
  unfold zk_dg
  rw [if_pos hm]
  exact zk_nd h
theorem zk_dg_0 {p q : Nat} {f : Nat → Int32} (h : f q = 0) : zk_dg p f q = false := by
  unfold zk_dg
  split
  · exact zk_nd0 h
  · rfl
theorem zk_dg_n {p q : Nat} {f : Nat → Int32} (hm : ¬ (q = p ∨ zk_an p q = true)) : zk_dg p f q = false := by
  unfold zk_dg
  rw [if_neg hm]
theorem zk_dF_t {p q : Nat} {f : Nat → Int32} (hm : q = p ∨ zk_an p q = true) : zk_dF p f q = 0 := by
  unfold zk_dF
  rw [if_pos hm]
theorem zk_dF_0 {p q : Nat} {f : Nat → Int32} (h : f q = 0) : zk_dF p f q = f q := by
  unfold zk_dF
  split
  · exact h.symm
  · rfl
theorem zk_dF_n {p q : Nat} {f : Nat → Int32} (hm : ¬ (q = p ∨ zk_an p q = true)) : zk_dF p f q = f q := by
  unfold zk_dF
  rw [if_neg hm]
theorem zk_nan {p q : Nat} (hp : p < 24) (h : q < p) : ¬ (q = p ∨ zk_an p q = true) := by
  rintro (e | e)
  · omega
  · have := zk_anlt p hp q (by omega) e
    omega
end ZKD
section ZKE
/-! the one store of six trees: a copied tree, the two planning trees -/
def zk_cp (n s t : Nat) (c : Nat → Int32) : Nat → Int32 := zk_rw (t * 24) (fun q => c (s * 24 + q)) c n
def zk_ap (n : Nat) (c : Nat → Int32) : Nat → Int32 := zk_cp n 5 2 (zk_cp n 4 1 (zk_cp n 3 0 c))
def zk_pl (A B c : Nat → Int32) (i : Nat) : Nat → Int32 := zk_rw (5 * 24) B (zk_rw (4 * 24) A c i) i
theorem zk_pl_0 {A B c : Nat → Int32} : zk_pl A B c 0 = c := by
  unfold zk_pl
  rw [zk_rw_0, zk_rw_0]
theorem zk_pl_lo {A B c : Nat → Int32} {i j : Nat} (h : j < 4 * 24) : zk_pl A B c i j = c j := by
  unfold zk_pl
  rw [zk_rw_out (by omega), zk_rw_out (by omega)]
theorem zk_pl_k {A B c : Nat → Int32} {i q : Nat} (k : Nat) (hk : k < 4) (h : q < 24) : zk_pl A B c i (k * 24 + q) = c (k * 24 + q) := zk_pl_lo (by omega)
theorem zk_pl_4 {A B c : Nat → Int32} {i q : Nat} (h : q < i) (hi : i ≤ 24) : zk_pl A B c i (4 * 24 + q) = A q := by
  unfold zk_pl
  rw [zk_rw_out (by omega), zk_rw_in h]
theorem zk_pl_5 {A B c : Nat → Int32} {i q : Nat} (h : q < i) : zk_pl A B c i (5 * 24 + q) = B q := by
  unfold zk_pl
  rw [zk_rw_in h]
theorem zk_pl_up {A B c : Nat → Int32} {i : Nat} {a b : Int32} (hi : i < 24) (ha : a = A i) (hb : b = B i) : upd (upd (zk_pl A B c i) (4 * 24 + i) a) (5 * 24 + i) b = zk_pl A B c (i + 1) := by
  unfold zk_pl
  rw [zk_rw_cm (by omega), zk_rw_up rfl ha, zk_rw_up rfl hb]
theorem zk_cp_t {n s t q : Nat} {c : Nat → Int32} (h : q < n) : zk_cp n s t c (t * 24 + q) = c (s * 24 + q) := by
  unfold zk_cp
  rw [zk_rw_in h]
theorem zk_cp_o {n s t k q : Nat} {c : Nat → Int32} (hn : n ≤ 24) (h : q < 24) (hk : k ≠ t) : zk_cp n s t c (k * 24 + q) = c (k * 24 + q) := by
  unfold zk_cp
  rw [zk_rw_out (by omega)]
theorem zk_ap_0 {n q : Nat} {c : Nat → Int32} (h : q < n) (hn : n ≤ 24) : zk_ap n c (0 * 24 + q) = c (3 * 24 + q) := by
  unfold zk_ap
  rw [zk_cp_o hn (by omega) (by omega), zk_cp_o hn (by omega) (by omega), zk_cp_t h]
theorem zk_ap_1 {n q : Nat} {c : Nat → Int32} (h : q < n) (hn : n ≤ 24) : zk_ap n c (1 * 24 + q) = c (4 * 24 + q) := by
  unfold zk_ap
  rw [zk_cp_o hn (by omega) (by omega), zk_cp_t h, zk_cp_o hn (by omega) (by omega)]
theorem zk_ap_2 {n q : Nat} {c : Nat → Int32} (h : q < n) (hn : n ≤ 24) : zk_ap n c (2 * 24 + q) = c (5 * 24 + q) := by
  unfold zk_ap
  rw [zk_cp_t h, zk_cp_o hn (by omega) (by omega), zk_cp_o hn (by omega) (by omega)]
theorem zk_ap_3 {n q : Nat} {c : Nat → Int32} (h : q < n) (hn : n ≤ 24) : zk_ap n c (3 * 24 + q) = c (3 * 24 + q) := by
  unfold zk_ap
  rw [zk_cp_o hn (by omega) (by omega), zk_cp_o hn (by omega) (by omega), zk_cp_o hn (by omega) (by omega)]
end ZKE
