section
section ZKB
/-! the ancestors: climbing by x / 4 - 1 -/
def zk_up (a : Nat) : Nat → Nat → Bool
  | 0, _ => false
  | k + 1, x => if x < 4 then false else if x / 4 - 1 = a then true else zk_up a k (x / 4 - 1)
def zk_an (a q : Nat) : Bool := zk_up a 8 q
theorem zk_an24 : ∀ a, a < 24 → ∀ q, q < 24 → zk_up a 24 q = zk_an a q := by decide +kernel
theorem zk_anlt : ∀ a, a < 24 → ∀ q, q < 24 → zk_an a q = true → a < q := by decide +kernel
def zk_b : Bool → Int32
  | true => 1
  | false => 0
theorem zk_b0 {x : Bool} (h : x = false) : zk_b x = 0 := by rw [h]; rfl
theorem zk_b1 {x : Bool} (h : x = true) : ¬ zk_b x = 0 := by rw [h]; decide
/-! scans: is there one, how many, which is the first -/
def zk_any (g : Nat → Bool) : Nat → Nat → Bool
  | 0, _ => false
  | d + 1, i => g i || zk_any g d (i + 1)
theorem zk_any_iff (g : Nat → Bool) : ∀ d i, zk_any g d i = true ↔ ∃ q, i ≤ q ∧ q < i + d ∧ g q = true := by
  intro d
  induction d with
  | zero =>
    intro i
    constructor
    · intro h
      exact absurd h (by simp [zk_any])
    · rintro ⟨q, a, b, _⟩
      omega
  | succ d ih =>
    intro i
    rw [zk_any, Bool.or_eq_true, ih]
    constructor
    · rintro (h | ⟨q, a, b, c⟩)
      · exact ⟨i, Nat.le_refl _, by omega, h⟩
      · exact ⟨q, by omega, by omega, c⟩
    · rintro ⟨q, a, b, c⟩
      by_cases e : q = i
      · exact Or.inl (e ▸ c)
      · exact Or.inr ⟨q, by omega, by omega, c⟩
theorem zk_any_eq {g g' : Nat → Bool} {d i d' i' : Nat} (h : (∃ q, i ≤ q ∧ q < i + d ∧ g q = true) ↔ ∃ q, i' ≤ q ∧ q < i' + d' ∧ g' q = true) : zk_any g d i = zk_any g' d' i' := by
  rw [Bool.eq_iff_iff, zk_any_iff, zk_any_iff]
  exact h
theorem zk_any_c {g g' : Nat → Bool} {d i : Nat} (h : ∀ q, i ≤ q → q < i + d → g q = g' q) : zk_any g d i = zk_any g' d i := by
  apply zk_any_eq
  constructor
  · rintro ⟨q, a, b, c⟩
    exact ⟨q, a, b, by rw [← h q a b]; exact c⟩
  · rintro ⟨q, a, b, c⟩
    exact ⟨q, a, b, by rw [h q a b]; exact c⟩
def zk_ga (f : Nat → Int32) (p q : Nat) : Bool := !decide (f q = 0) && zk_an q p
def zk_gb (f : Nat → Int32) (p q : Nat) : Bool := !decide (f q = 0) && zk_an p q
def zk_fa (n : Nat) (f : Nat → Int32) (p : Nat) : Bool := zk_any (zk_ga f p) n 0
def zk_fb (n : Nat) (f : Nat → Int32) (p : Nat) : Bool := zk_any (zk_gb f p) n 0
theorem zk_gaT {f : Nat → Int32} {p q : Nat} (h : zk_ga f p q = true) : ¬ f q = 0 ∧ zk_an q p = true := by
  unfold zk_ga at h
  rw [Bool.and_eq_true, Bool.not_eq_true', decide_eq_false_iff_not] at h
  exact h
theorem zk_gbT {f : Nat → Int32} {p q : Nat} (h : zk_gb f p q = true) : ¬ f q = 0 ∧ zk_an p q = true := by
  unfold zk_gb at h
  rw [Bool.and_eq_true, Bool.not_eq_true', decide_eq_false_iff_not] at h
  exact h
theorem zk_ga0 {f : Nat → Int32} {p q : Nat} (h : f q = 0) : zk_ga f p q = false := by
  unfold zk_ga
  rw [decide_eq_true h]
  rfl
theorem zk_gb0 {f : Nat → Int32} {p q : Nat} (h : f q = 0) : zk_gb f p q = false := by
  unfold zk_gb
  rw [decide_eq_true h]
  rfl
theorem zk_ga1 {f : Nat → Int32} {p q : Nat} (h : ¬ f q = 0) : zk_ga f p q = zk_an q p := by
  unfold zk_ga
  rw [decide_eq_false h]
  rfl
theorem zk_gb1 {f : Nat → Int32} {p q : Nat} (h : ¬ f q = 0) : zk_gb f p q = zk_an p q := by
  unfold zk_gb
  rw [decide_eq_false h]
  rfl
theorem zk_fa_x {n p : Nat} {f : Nat → Int32} (hp : p < n) (hn : n ≤ 24) : zk_any (zk_ga f p) p 0 = zk_fa n f p := by
  apply zk_any_eq
  constructor
  · rintro ⟨q, a, b, c⟩
    exact ⟨q, a, by omega, c⟩
  · rintro ⟨q, a, b, c⟩
    have := zk_anlt q (by omega) p (by omega) (zk_gaT c).2
    exact ⟨q, a, by omega, c⟩
theorem zk_fb_x {n p : Nat} {f : Nat → Int32} (hp : p < n) (hn : n ≤ 24) : zk_any (zk_gb f p) (n - (p + 1)) (p + 1) = zk_fb n f p := by
  apply zk_any_eq
  constructor
  · rintro ⟨q, a, b, c⟩
    exact ⟨q, by omega, by omega, c⟩
  · rintro ⟨q, a, b, c⟩
    have := zk_anlt p (by omega) q (by omega) (zk_gbT c).2
    exact ⟨q, by omega, by omega, c⟩
theorem zk_fa_c {n p : Nat} {f g : Nat → Int32} (h : ∀ q, q < n → f q = g q) : zk_fa n f p = zk_fa n g p := by
  apply zk_any_c
  intro q _ b
  unfold zk_ga
  rw [h q (by omega)]
theorem zk_fb_c {n p : Nat} {f g : Nat → Int32} (h : ∀ q, q < n → f q = g q) : zk_fb n f p = zk_fb n g p := by
  apply zk_any_c
  intro q _ b
  unfold zk_gb
  rw [h q (by omega)]
def zk_cn (g : Nat → Bool) : Nat → Nat → Nat
  | 0, _ => 0
  | d + 1, i => (if g i = true then 1 else 0) + zk_cn g d (i + 1)
theorem zk_cn_c {g g' : Nat → Bool} : ∀ d i, (∀ q, i ≤ q → q < i + d → g q = g' q) → zk_cn g d i = zk_cn g' d i := by
  intro d
  induction d with
  | zero => intro i _; rfl
  | succ d ih =>
    intro i h
    rw [zk_cn, zk_cn, h i (Nat.le_refl _) (by omega), ih (i + 1) (fun q a b => h q (by omega) (by omega))]
theorem zk_cn_t {g : Nat → Bool} {d i : Nat} (h : g i = true) : zk_cn g (d + 1) i = 1 + zk_cn g d (i + 1) := by
  rw [zk_cn, if_pos h]
theorem zk_cn_f {g : Nat → Bool} {d i : Nat} (h : g i = false) : zk_cn g (d + 1) i = zk_cn g d (i + 1) := by
  rw [zk_cn, h, if_neg (by decide), Nat.zero_add]
theorem zk_cn_skip {g : Nat → Bool} : ∀ a d i, (∀ q, i ≤ q → q < i + a → g q = false) → zk_cn g (d + a) i = zk_cn g d (i + a) := by
  intro a
  induction a with
  | zero => intro d i _; rfl
  | succ a ih =>
    intro d i h
    rw [show d + (a + 1) = (d + a) + 1 from by omega, zk_cn_f (h i (Nat.le_refl _) (by omega)), ih d (i + 1) (fun q x y => h q (by omega) (by omega))]
    exact congrArg (zk_cn g d) (by omega)
def zk_fst (g : Nat → Bool) : Nat → Nat → Nat
  | 0, i => i
  | d + 1, i => if g i = true then i else zk_fst g d (i + 1)
theorem zk_fst_t {g : Nat → Bool} {d i : Nat} (h : g i = true) : zk_fst g (d + 1) i = i := by
  rw [zk_fst, if_pos h]
theorem zk_fst_f {g : Nat → Bool} {d i : Nat} (h : g i = false) : zk_fst g (d + 1) i = zk_fst g d (i + 1) := by
  rw [zk_fst, h, if_neg (by decide)]
theorem zk_fst_c {g g' : Nat → Bool} : ∀ d i, (∀ q, i ≤ q → q < i + d → g q = g' q) → zk_fst g d i = zk_fst g' d i := by
  intro d
  induction d with
  | zero => intro i _; rfl
  | succ d ih =>
    intro i h
    rw [zk_fst, zk_fst, h i (Nat.le_refl _) (by omega), ih (i + 1) (fun q a b => h q (by omega) (by omega))]
theorem zk_fst_le {g : Nat → Bool} : ∀ d i, zk_fst g d i ≤ i + d := by
  intro d
  induction d with
  | zero => intro i; exact Nat.le_refl _
  | succ d ih =>
    intro i
    rw [zk_fst]
    split
    · omega
    · have := ih (i + 1)
      omega
theorem zk_fst_lo {g : Nat → Bool} : ∀ d i q, i ≤ q → q < zk_fst g d i → g q = false := by
  intro d
  induction d with
  | zero =>
    intro i q a b
    have b' : q < i := b
    omega
  | succ d ih =>
    intro i q a b
    rw [zk_fst] at b
    split at b
    · omega
    · rename_i h
      by_cases e : q = i
      · rw [e]
        exact Bool.eq_false_iff.mpr h
      · exact ih (i + 1) q (by omega) b
end ZKB
section ZKC
/-! a range of a store written over: from b on, i cells hold F -/
def zk_rw (b : Nat) (F c : Nat → Int32) (i : Nat) : Nat → Int32 := fun j => if b ≤ j ∧ j < b + i then F (j - b) else c j
theorem zk_rw_in {b : Nat} {F c : Nat → Int32} {i q : Nat} (h : q < i) : zk_rw b F c i (b + q) = F q := by
  unfold zk_rw
  rw [if_pos ⟨by omega, by omega⟩, Nat.add_sub_cancel_left]
theorem zk_rw_out {b : Nat} {F c : Nat → Int32} {i j : Nat} (h : j < b ∨ b + i ≤ j) : zk_rw b F c i j = c j := by
  unfold zk_rw
  rw [if_neg (by omega)]
theorem zk_rw_0 {b : Nat} {F c : Nat → Int32} : zk_rw b F c 0 = c := by
  funext j
  exact zk_rw_out (by omega)
theorem zk_rw_id {b : Nat} {F c : Nat → Int32} {i : Nat} (h : ∀ q, q < i → F q = c (b + q)) : zk_rw b F c i = c := by
  funext j
  unfold zk_rw
  by_cases e : b ≤ j ∧ j < b + i
  · rw [if_pos e, h (j - b) (by omega)]
    exact congrArg c (by omega)
  · rw [if_neg e]
theorem zk_rw_up {b : Nat} {F c : Nat → Int32} {i k : Nat} {v : Int32} (hk : k = b + i) (hv : v = F i) : upd (zk_rw b F c i) k v = zk_rw b F c (i + 1) := by
  subst hk hv
  funext j
  unfold upd zk_rw
  by_cases e : j = b + i
  · subst e
    rw [if_pos rfl, if_pos ⟨by omega, by omega⟩, Nat.add_sub_cancel_left]
  · rw [if_neg e]
    by_cases h : b ≤ j ∧ j < b + i
    · rw [if_pos h, if_pos ⟨h.1, by omega⟩]
    · rw [if_neg h, if_neg (by omega)]
theorem zk_rw_st {b : Nat} {F c : Nat → Int32} {i : Nat} (h : F i = c (b + i)) : zk_rw b F c i = zk_rw b F c (i + 1) := by
  funext j
  unfold zk_rw
  by_cases e : j = b + i
  · subst e
    rw [if_neg (by omega), if_pos ⟨by omega, by omega⟩, Nat.add_sub_cancel_left, h]
  · by_cases h : b ≤ j ∧ j < b + i
    · rw [if_pos h, if_pos ⟨h.1, by omega⟩]
    · rw [if_neg h, if_neg (by omega)]
theorem zk_rw_cm {b : Nat} {F c : Nat → Int32} {i k : Nat} {v : Int32} (h : k < b ∨ b + i ≤ k) : upd (zk_rw b F c i) k v = zk_rw b F (upd c k v) i := by
  funext j
  by_cases e : j = k
  · subst e
    rw [pk_us, zk_rw_out h, pk_us]
  · rw [pk_un e]
    unfold zk_rw
    rw [pk_un e]
end ZKC
section ZKD
/-! one path's plan -/
def zk_RF (h i w t : Int32) : Int32 := if h = t then 0 else if w = i ∧ (i = h ∨ i = t) then 0 else if i = t then 0 else if ¬ i = h then 1 else if i = 0 then 3 else 2
def zk_NI (h i t : Int32) : Int32 := if h = t then i else t
def zk_NW (h i w t : Int32) : Int32 := if h = t then w else if w = i ∧ (i = h ∨ i = t) then t else w
def zk_ni (H I T : Nat → Int32) : Nat → Int32 := fun p => zk_NI (H p) (I p) (T p)
def zk_nw (H I W T : Nat → Int32) : Nat → Int32 := fun p => zk_NW (H p) (I p) (W p) (T p)
def zk_gr (H I W T : Nat → Int32) (p : Nat) : Bool := !decide (zk_RF (H p) (I p) (W p) (T p) = 0)
def zk_gh (n : Nat) (A B : Nat → Int32) (p : Nat) : Bool := (!decide (A p = 0) && zk_fb n A p) || (!decide (B p = 0) && zk_fb n B p)
def zk_m (n : Nat) (H I W T : Nat → Int32) : Nat := zk_fst (zk_gr H I W T) n 0
def zk_h (n : Nat) (A B : Nat → Int32) : Nat := zk_fst (zk_gh n A B) n 0
def zk_pa (n : Nat) (H I W T : Nat → Int32) : Int32 :=
  if zk_m n H I W T < n then zk_RF (H (zk_m n H I W T)) (I (zk_m n H I W T)) (W (zk_m n H I W T)) (T (zk_m n H I W T))
  else if zk_h n (zk_ni H I T) (zk_nw H I W T) < n then 4 else 0
def zk_pr (n : Nat) (H I W T : Nat → Int32) : Int32 :=
  if zk_m n H I W T < n then nI (zk_m n H I W T)
  else if zk_h n (zk_ni H I T) (zk_nw H I W T) < n then nI (zk_h n (zk_ni H I T) (zk_nw H I W T)) else -1
/-! the forced plan -/
def zk_fw (n : Nat) (H I W T : Nat → Int32) : Nat → Int32 := fun p =>
  if ¬ H p = 0 ∨ ¬ I p = 0 ∨ ¬ T p = 0 then T p else if zk_fa n T p = true ∨ zk_fb n T p = true then 0 else W p
theorem zk_gr_c {n : Nat} {H I W T H' I' W' T' : Nat → Int32} (hH : ∀ q, q < n → H q = H' q) (hI : ∀ q, q < n → I q = I' q) (hW : ∀ q, q < n → W q = W' q) (hT : ∀ q, q < n → T q = T' q) : zk_m n H I W T = zk_m n H' I' W' T' := by
  apply zk_fst_c
  intro q _ b
  unfold zk_gr
  rw [hH q (by omega), hI q (by omega), hW q (by omega), hT q (by omega)]
theorem zk_h_c {n : Nat} {A B A' B' : Nat → Int32} (hA : ∀ q, q < n → A q = A' q) (hB : ∀ q, q < n → B q = B' q) : zk_h n A B = zk_h n A' B' := by
  apply zk_fst_c
  intro q _ b
  unfold zk_gh
  rw [hA q (by omega), hB q (by omega), zk_fb_c hA, zk_fb_c hB]
theorem zk_ni_c {n : Nat} {H I T H' I' T' : Nat → Int32} (hH : ∀ q, q < n → H q = H' q) (hI : ∀ q, q < n → I q = I' q) (hT : ∀ q, q < n → T q = T' q) : ∀ q, q < n → zk_ni H I T q = zk_ni H' I' T' q := by
  intro q b
  unfold zk_ni
  rw [hH q b, hI q b, hT q b]
theorem zk_nw_c {n : Nat} {H I W T H' I' W' T' : Nat → Int32} (hH : ∀ q, q < n → H q = H' q) (hI : ∀ q, q < n → I q = I' q) (hW : ∀ q, q < n → W q = W' q) (hT : ∀ q, q < n → T q = T' q) : ∀ q, q < n → zk_nw H I W T q = zk_nw H' I' W' T' q := by
  intro q b
  unfold zk_nw
  rw [hH q b, hI q b, hW q b, hT q b]
theorem zk_fw_c {n : Nat} {H I W T H' I' W' T' : Nat → Int32} (hH : ∀ q, q < n → H q = H' q) (hI : ∀ q, q < n → I q = I' q) (hW : ∀ q, q < n → W q = W' q) (hT : ∀ q, q < n → T q = T' q) : ∀ q, q < n → zk_fw n H I W T q = zk_fw n H' I' W' T' q := by
  intro q b
  unfold zk_fw
  rw [hH q b, hI q b, hW q b, hT q b, zk_fa_c hT, zk_fb_c hT]
theorem zk_pa_c {n : Nat} {H I W T H' I' W' T' : Nat → Int32} (hH : ∀ q, q < n → H q = H' q) (hI : ∀ q, q < n → I q = I' q) (hW : ∀ q, q < n → W q = W' q) (hT : ∀ q, q < n → T q = T' q) : zk_pa n H I W T = zk_pa n H' I' W' T' := by
  unfold zk_pa
  rw [zk_gr_c hH hI hW hT, zk_h_c (zk_ni_c hH hI hT) (zk_nw_c hH hI hW hT)]
  by_cases e : zk_m n H' I' W' T' < n
  · rw [if_pos e, if_pos e, hH _ e, hI _ e, hW _ e, hT _ e]
  · rw [if_neg e, if_neg e]
theorem zk_pr_c {n : Nat} {H I W T H' I' W' T' : Nat → Int32} (hH : ∀ q, q < n → H q = H' q) (hI : ∀ q, q < n → I q = I' q) (hW : ∀ q, q < n → W q = W' q) (hT : ∀ q, q < n → T q = T' q) : zk_pr n H I W T = zk_pr n H' I' W' T' := by
  unfold zk_pr
  rw [zk_gr_c hH hI hW hT, zk_h_c (zk_ni_c hH hI hT) (zk_nw_c hH hI hW hT)]
/-! delete, stage, write: what they make of a tree -/
def zk_dF (p : Nat) (f : Nat → Int32) : Nat → Int32 := fun q => if q = p ∨ zk_an p q = true then 0 else f q
def zk_dg (p : Nat) (f : Nat → Int32) (q : Nat) : Bool := if q = p ∨ zk_an p q = true then !decide (f q = 0) else false
def zk_cF (p : Nat) (f : Nat → Int32) : Nat → Int32 := fun q => if zk_an q p = true ∨ zk_an p q = true then 0 else f q
def zk_ne (f g : Nat → Int32) (q : Nat) : Bool := !decide (f q = g q)
def zk_nz (f : Nat → Int32) (q : Nat) : Bool := !decide (f q = 0)
def zk_wo (n : Nat) (f : Nat → Int32) (p : Nat) (y : Int32) : Bool := if y < 1 then false else if y ≤ 1000 then (!zk_fa n f p && !zk_fb n f p) else false
def zk_to (n : Nat) (f : Nat → Int32) (p : Nat) (y : Int32) : Bool := if y < 0 then false else if y ≤ 1000 then (if y = 0 then true else !zk_fa n f p && !zk_fb n f p) else false
theorem zk_wo_c {n p : Nat} {f g : Nat → Int32} {y : Int32} (h : ∀ q, q < n → f q = g q) : zk_wo n f p y = zk_wo n g p y := by
  unfold zk_wo
  rw [zk_fa_c h, zk_fb_c h]
theorem zk_to_c {n p : Nat} {f g : Nat → Int32} {y : Int32} (h : ∀ q, q < n → f q = g q) : zk_to n f p y = zk_to n g p y := by
  unfold zk_to
  rw [zk_fa_c h, zk_fb_c h]
theorem zk_nd {x y : Int32} (h : ¬ x = y) : (!decide (x = y)) = true := by
  rw [decide_eq_false h]
  rfl
theorem zk_nd0 {x y : Int32} (h : x = y) : (!decide (x = y)) = false := by
  rw [decide_eq_true h]
  rfl
theorem zk_dg_t {p q : Nat} {f : Nat → Int32} (hm : q = p ∨ zk_an p q = true) (h : ¬ f q = 0) : zk_dg p f q = true := by
  unfold zk_dg
  rw [if_pos hm]
  exact zk_nd h
theorem zk_dg_0 {p q : Nat} {f : Nat → Int32} (h : f q = 0) : zk_dg p f q = false := by
  unfold zk_dg
  split
  · exact zk_nd0 h
  · rfl
theorem zk_dg_n {p q : Nat} {f : Nat → Int32} (hm : ¬ (q = p ∨ zk_an p q = true)) : zk_dg p f q = false := by
  unfold zk_dg
  rw [if_neg hm]
theorem zk_dF_t {p q : Nat} {f : Nat → Int32} (hm : q = p ∨ zk_an p q = true) : zk_dF p f q = 0 := by
  unfold zk_dF
  rw [if_pos hm]
theorem zk_dF_0 {p q : Nat} {f : Nat → Int32} (h : f q = 0) : zk_dF p f q = f q := by
  unfold zk_dF
  split
  · exact h.symm
  · rfl
theorem zk_dF_n {p q : Nat} {f : Nat → Int32} (hm : ¬ (q = p ∨ zk_an p q = true)) : zk_dF p f q = f q := by
  unfold zk_dF
  rw [if_neg hm]
theorem zk_nan {p q : Nat} (hp : p < 24) (h : q < p) : ¬ (q = p ∨ zk_an p q = true) := by
  rintro (e | e)
  · omega
  · have := zk_anlt p hp q (by omega) e
    omega
end ZKD
section ZKE
/-! the one store of six trees: a copied tree, the two planning trees -/
def zk_cp (n s t : Nat) (c : Nat → Int32) : Nat → Int32 := zk_rw (t * 24) (fun q => c (s * 24 + q)) c n
def zk_ap (n : Nat) (c : Nat → Int32) : Nat → Int32 := zk_cp n 5 2 (zk_cp n 4 1 (zk_cp n 3 0 c))
def zk_pl (A B c : Nat → Int32) (i : Nat) : Nat → Int32 := zk_rw (5 * 24) B (zk_rw (4 * 24) A c i) i
theorem zk_pl_0 {A B c : Nat → Int32} : zk_pl A B c 0 = c := by
  unfold zk_pl
  rw [zk_rw_0, zk_rw_0]
theorem zk_pl_lo {A B c : Nat → Int32} {i j : Nat} (h : j < 4 * 24) : zk_pl A B c i j = c j := by
  unfold zk_pl
  rw [zk_rw_out (by omega), zk_rw_out (by omega)]
theorem zk_pl_k {A B c : Nat → Int32} {i q : Nat} (k : Nat) (hk : k < 4) (h : q < 24) : zk_pl A B c i (k * 24 + q) = c (k * 24 + q) := zk_pl_lo (by omega)
theorem zk_pl_4 {A B c : Nat → Int32} {i q : Nat} (h : q < i) (hi : i ≤ 24) : zk_pl A B c i (4 * 24 + q) = A q := by
  unfold zk_pl
  rw [zk_rw_out (by omega), zk_rw_in h]
theorem zk_pl_5 {A B c : Nat → Int32} {i q : Nat} (h : q < i) : zk_pl A B c i (5 * 24 + q) = B q := by
  unfold zk_pl
  rw [zk_rw_in h]
theorem zk_pl_up {A B c : Nat → Int32} {i : Nat} {a b : Int32} (hi : i < 24) (ha : a = A i) (hb : b = B i) : upd (upd (zk_pl A B c i) (4 * 24 + i) a) (5 * 24 + i) b = zk_pl A B c (i + 1) := by
  unfold zk_pl
  rw [zk_rw_cm (by omega), zk_rw_up rfl ha, zk_rw_up rfl hb]
theorem zk_cp_t {n s t q : Nat} {c : Nat → Int32} (h : q < n) : zk_cp n s t c (t * 24 + q) = c (s * 24 + q) := by
  unfold zk_cp
  rw [zk_rw_in h]
theorem zk_cp_o {n s t k q : Nat} {c : Nat → Int32} (hn : n ≤ 24) (h : q < 24) (hk : k ≠ t) : zk_cp n s t c (k * 24 + q) = c (k * 24 + q) := by
  unfold zk_cp
  rw [zk_rw_out (by omega)]
theorem zk_ap_0 {n q : Nat} {c : Nat → Int32} (h : q < n) (hn : n ≤ 24) : zk_ap n c (0 * 24 + q) = c (3 * 24 + q) := by
  unfold zk_ap
  rw [zk_cp_o hn (by omega) (by omega), zk_cp_o hn (by omega) (by omega), zk_cp_t h]
theorem zk_ap_1 {n q : Nat} {c : Nat → Int32} (h : q < n) (hn : n ≤ 24) : zk_ap n c (1 * 24 + q) = c (4 * 24 + q) := by
  unfold zk_ap
  rw [zk_cp_o hn (by omega) (by omega), zk_cp_t h, zk_cp_o hn (by omega) (by omega)]
theorem zk_ap_2 {n q : Nat} {c : Nat → Int32} (h : q < n) (hn : n ≤ 24) : zk_ap n c (2 * 24 + q) = c (5 * 24 + q) := by
  unfold zk_ap
  rw [zk_cp_t h, zk_cp_o hn (by omega) (by omega), zk_cp_o hn (by omega) (by omega)]
theorem zk_ap_3 {n q : Nat} {c : Nat → Int32} (h : q < n) (hn : n ≤ 24) : zk_ap n c (3 * 24 + q) = c (3 * 24 + q) := by
  unfold zk_ap
  rw [zk_cp_o hn (by omega) (by omega), zk_cp_o hn (by omega) (by omega), zk_cp_o hn (by omega) (by omega)]
end ZKE
end
section
section ZXA
/-! the class's small methods -/
theorem zx_ix (t p : Nat) : nI t * 24 + nI p = nI (t * 24 + p) := by
  rw [show (24 : Int32) = nI 24 from rfl, pk_mul, nI_add]
theorem zx_get {post : Int32 → Prop} {N l v : Int32} {c : Nat → Int32} (t p : Nat) (ht : t < 6) (hp : p < 24) (e : c (t * 24 + p) = v) (h : post v) : wpX_get post (N, l, c) (nI t) (nI p) := by
  unfold wpX_get
  dsimp only
  rw [zx_ix, nI_clamp (by omega), e]
  exact ⟨vp_in_nI (by omega) (by omega), h⟩
theorem zx_put {post : St2 → Prop} {N l v : Int32} {c : Nat → Int32} (t p : Nat) (ht : t < 6) (hp : p < 24) (h : post (N, l, upd c (t * 24 + p) v)) : wpX_put post (N, l, c) (nI t) (nI p) v := by
  unfold wpX_put
  dsimp only
  rw [zx_ix, nI_clamp (by omega)]
  exact ⟨vp_in_nI (by omega) (by omega), nm_e h⟩
theorem zx_ip1 {post : Int32 → Prop} {l : Int32} {c : Nat → Int32} {n p : Nat} (hp : p < n) (hn : n ≤ 24) (h : post 1) : wpX_isPath post (nI n, l, c) (nI p) := by
  unfold wpX_isPath
  dsimp only
  exact br_f (nI_pos (by omega)) (br_f (nI_ge hp (by omega)) h)
theorem zx_ip0 {post : Int32 → Prop} {l : Int32} {c : Nat → Int32} {n : Nat} {x : Int32} (hx : x < 0 ∨ nI n ≤ x) (h : post 0) : wpX_isPath post (nI n, l, c) x := by
  unfold wpX_isPath
  dsimp only
  by_cases e : x < 0
  · exact br_t e h
  · exact br_f e (br_t (hx.resolve_left e) h)
theorem zx_it1 {post : Int32 → Prop} {t : Nat} (ht : t < 4) (h : post 1) : wpX_isTree post () (nI t) := by
  unfold wpX_isTree
  exact br_f (nI_pos (by omega)) (br_f (nI_nlt (a := 3) (b := t) (by omega) (by decide)) h)
theorem zx_it0 {post : Int32 → Prop} {x : Int32} (hx : x < 0 ∨ 3 < x) (h : post 0) : wpX_isTree post () x := by
  unfold wpX_isTree
  by_cases e : x < 0
  · exact br_t e h
  · exact br_f e (br_t (hx.resolve_left e) h)
theorem zx_q4 {x : Nat} (h : 4 ≤ x) (hx : x < 24) : nI x / 4 - 1 = nI (x / 4 - 1) := by
  rw [show (4 : Int32) = nI 4 from rfl, pk_div (by omega) (by omega) (by omega), show (1 : Int32) = nI 1 from rfl, pk_sub (by omega)]
theorem zx_ab4 {post : Int32 → Prop} {a : Nat} (ha : a < 24) : ∀ d s x, s + d = 24 → x < 24 → post (zk_b (zk_up a d x)) → wX_isAbove_4 post (nI a) (d + 1) (nI x) (nI s) := by
  intro d
  induction d with
  | zero =>
    intro s x hs hx h
    exact br_t (nI_le (a := 24) (b := s) (by omega) (by omega)) h
  | succ d ih =>
    intro s x hs hx h
    refine br_f (nI_ge (b := 24) (a := s) (by omega) (by decide)) ?_
    by_cases h4 : x < 4
    · rw [zk_up, if_pos h4] at h
      exact br_t (nI_lt (b := 4) h4 (by decide)) h
    · rw [zk_up, if_neg h4] at h
      refine br_f (nI_nlt (a := x) (b := 4) (by omega) (by omega)) ⟨by decide, nm_r (zx_q4 (by omega) hx) (pk_eq (x / 4 - 1) a (fun e => ?_) (fun e => nm_r (nI_1 s) (ih (s + 1) (x / 4 - 1) (by omega) (by omega) ?_)))⟩
      · rw [if_pos e] at h
        exact h
      · rw [if_neg e] at h
        exact h
theorem zx_ab {post : Int32 → Prop} (a p : Nat) (ha : a < 24) (hp : p < 24) (h : post (zk_b (zk_an a p))) : wpX_isAbove post () (nI a) (nI p) := by
  unfold wpX_isAbove
  refine ⟨25, zx_ab4 ha 24 0 p rfl hp ?_⟩
  rw [zk_an24 a ha p hp]
  exact h
theorem zx_fa2 {post : Int32 → Prop} {N l : Int32} {c : Nat → Int32} (t p : Nat) (ht : t < 6) (hp : p < 24) : ∀ d i, i + d = p → post (zk_b (zk_any (zk_ga (fun q => c (t * 24 + q)) p) d i)) → wX_hasFileAbove_2 post (nI t) (nI p) N l c (d + 1) (nI i) := by
  intro d
  induction d with
  | zero =>
    intro i hi h
    exact br_t (nI_le (a := p) (b := i) (by omega) (by omega)) h
  | succ d ih =>
    intro i hi h
    refine br_f (nI_ge (a := i) (b := p) (by omega) (by omega)) (zx_get t i ht (by omega) rfl ?_)
    by_cases z : c (t * 24 + i) = 0
    · rw [zk_any, zk_ga0 (f := fun q => c (t * 24 + q)) z, Bool.false_or] at h
      exact br_t z (nm_r (nI_1 i) (ih (i + 1) (by omega) h))
    · rw [zk_any, zk_ga1 (f := fun q => c (t * 24 + q)) z] at h
      refine br_f z (zx_ab i p (by omega) hp ?_)
      cases e : zk_an i p with
      | false =>
        rw [e, Bool.false_or] at h
        exact br_t rfl (nm_r (nI_1 i) (ih (i + 1) (by omega) h))
      | true =>
        rw [e, Bool.true_or] at h
        exact br_f (by decide) h
theorem zx_fa {post : Int32 → Prop} {l : Int32} {n : Nat} {c : Nat → Int32} (t p : Nat) (ht : t < 6) (hp : p < n) (hn : n ≤ 24) (h : post (zk_b (zk_fa n (fun q => c (t * 24 + q)) p))) : wpX_hasFileAbove post (nI n, l, c) (nI t) (nI p) := by
  unfold wpX_hasFileAbove
  dsimp only
  refine ⟨p + 1, zx_fa2 t p ht (by omega) p 0 (by omega) ?_⟩
  rw [zk_fa_x hp hn]
  exact h
theorem zx_fb4 {post : Int32 → Prop} {l : Int32} {n : Nat} {c : Nat → Int32} (t p : Nat) (ht : t < 6) (hp : p < 24) (hn : n ≤ 24) : ∀ d i, i + d = n → post (zk_b (zk_any (zk_gb (fun q => c (t * 24 + q)) p) d i)) → wX_hasFileBelow_4 post (nI t) (nI p) (nI n) l c (d + 1) (nI i) := by
  intro d
  induction d with
  | zero =>
    intro i hi h
    exact br_t (nI_le (a := n) (b := i) (by omega) (by omega)) h
  | succ d ih =>
    intro i hi h
    refine br_f (nI_ge (a := i) (b := n) (by omega) (by omega)) (zx_get t i ht (by omega) rfl ?_)
    by_cases z : c (t * 24 + i) = 0
    · rw [zk_any, zk_gb0 (f := fun q => c (t * 24 + q)) z, Bool.false_or] at h
      exact br_t z (nm_r (nI_1 i) (ih (i + 1) (by omega) h))
    · rw [zk_any, zk_gb1 (f := fun q => c (t * 24 + q)) z] at h
      refine br_f z (zx_ab p i hp (by omega) ?_)
      cases e : zk_an p i with
      | false =>
        rw [e, Bool.false_or] at h
        exact br_t rfl (nm_r (nI_1 i) (ih (i + 1) (by omega) h))
      | true =>
        rw [e, Bool.true_or] at h
        exact br_f (by decide) h
theorem zx_fb {post : Int32 → Prop} {l : Int32} {n : Nat} {c : Nat → Int32} (t p : Nat) (ht : t < 6) (hp : p < n) (hn : n ≤ 24) (h : post (zk_b (zk_fb n (fun q => c (t * 24 + q)) p))) : wpX_hasFileBelow post (nI n, l, c) (nI t) (nI p) := by
  unfold wpX_hasFileBelow
  dsimp only
  refine nm_r (nI_1 p) ⟨n - (p + 1) + 1, zx_fb4 t p ht (by omega) hn (n - (p + 1)) (p + 1) (by omega) ?_⟩
  rw [zk_fb_x hp hn]
  exact h
end ZXA
section ZXB
/-! write, setTarget, delete -/
theorem zx_write {post : Int32 → St2 → Prop} {l y : Int32} {n p : Nat} {c : Nat → Int32} (hp : p < n) (hn : n ≤ 24) (h : post (zk_b (zk_wo n (fun q => c (2 * 24 + q)) p y)) (nI n, l, cond (zk_wo n (fun q => c (2 * 24 + q)) p y) (upd c (2 * 24 + p) y) c)) : wpX_write post (nI n, l, c) (nI p) y := by
  unfold wpX_write
  dsimp only
  refine zx_ip1 hp hn (br_f (by decide) ?_)
  unfold zk_wo at h
  by_cases h1 : y < 1
  · rw [if_pos h1] at h
    exact br_t h1 h
  · rw [if_neg h1] at h
    refine br_f h1 ?_
    by_cases h2 : y ≤ 1000
    · rw [if_pos h2] at h
      refine br_t h2 (zx_fa 2 p (by omega) hp hn ?_)
      cases ea : zk_fa n (fun q => c (2 * 24 + q)) p with
      | true =>
        rw [ea] at h
        exact br_f (by decide) h
      | false =>
        refine br_t rfl (zx_fb 2 p (by omega) hp hn ?_)
        cases eb : zk_fb n (fun q => c (2 * 24 + q)) p with
        | true =>
          rw [ea, eb] at h
          exact br_f (by decide) h
        | false =>
          rw [ea, eb] at h
          exact br_t rfl (zx_put 2 p (by omega) (by omega) h)
    · rw [if_neg h2] at h
      exact br_f h2 h
theorem zx_write0 {post : Int32 → St2 → Prop} {l x y : Int32} {n : Nat} {c : Nat → Int32} (hx : x < 0 ∨ nI n ≤ x) (h : post 0 (nI n, l, c)) : wpX_write post (nI n, l, c) x y := by
  unfold wpX_write
  dsimp only
  exact zx_ip0 hx (br_t rfl h)
theorem zx_setTarget {post : Int32 → St2 → Prop} {l y : Int32} {n p : Nat} {c : Nat → Int32} (hp : p < n) (hn : n ≤ 24) (h : post (zk_b (zk_to n (fun q => c (3 * 24 + q)) p y)) (nI n, l, cond (zk_to n (fun q => c (3 * 24 + q)) p y) (upd c (3 * 24 + p) y) c)) : wpX_setTarget post (nI n, l, c) (nI p) y := by
  unfold wpX_setTarget
  dsimp only
  refine zx_ip1 hp hn (br_f (by decide) ?_)
  unfold zk_to at h
  by_cases h1 : y < 0
  · rw [if_pos h1] at h
    exact br_t h1 h
  · rw [if_neg h1] at h
    refine br_f h1 ?_
    by_cases h2 : y ≤ 1000
    · rw [if_pos h2] at h
      refine br_t h2 ?_
      by_cases h3 : y = 0
      · rw [if_pos h3] at h
        refine br_t h3 ?_
        unfold wX_setTarget_45
        exact zx_put 3 p (by omega) (by omega) h
      · rw [if_neg h3] at h
        refine br_f h3 (zx_fa 3 p (by omega) hp hn ?_)
        cases ea : zk_fa n (fun q => c (3 * 24 + q)) p with
        | true =>
          rw [ea] at h
          exact br_f (by decide) h
        | false =>
          refine br_t rfl (zx_fb 3 p (by omega) hp hn ?_)
          cases eb : zk_fb n (fun q => c (3 * 24 + q)) p with
          | true =>
            rw [ea, eb] at h
            exact br_f (by decide) h
          | false =>
            rw [ea, eb] at h
            refine br_t rfl ?_
            unfold wX_setTarget_45
            exact zx_put 3 p (by omega) (by omega) h
    · rw [if_neg h2] at h
      exact br_f h2 h
theorem zx_setTarget0 {post : Int32 → St2 → Prop} {l x y : Int32} {n : Nat} {c : Nat → Int32} (hx : x < 0 ∨ nI n ≤ x) (h : post 0 (nI n, l, c)) : wpX_setTarget post (nI n, l, c) x y := by
  unfold wpX_setTarget
  dsimp only
  exact zx_ip0 hx (br_t rfl h)
theorem zx_del35 {post : Int32 → St2 → Prop} {J : Int32 → Int32 → Int32 → Int32 → (Nat → Int32) → Prop} {N l : Int32} {c : Nat → Int32} {p i r : Nat} (hi : i < 24) (hm : i = p ∨ zk_an p i = true)
    (h0 : c (2 * 24 + i) = 0 → J (nI r) (nI (i + 1)) N l (zk_rw (2 * 24) (zk_dF p (fun q => c (2 * 24 + q))) c (i + 1)))
    (h1 : ¬ c (2 * 24 + i) = 0 → J (nI (r + 1)) (nI (i + 1)) N l (zk_rw (2 * 24) (zk_dF p (fun q => c (2 * 24 + q))) c (i + 1))) :
    wX_delete_35 post J (nI p) (nI r) (nI i) N l (zk_rw (2 * 24) (zk_dF p (fun q => c (2 * 24 + q))) c i) := by
  unfold wX_delete_35
  refine zx_get 2 i (by omega) hi (zk_rw_out (by omega)) ?_
  by_cases z : c (2 * 24 + i) = 0
  · refine br_t z (nm_r (nI_1 i) ?_)
    rw [zk_rw_st (zk_dF_0 (f := fun q => c (2 * 24 + q)) z)]
    exact h0 z
  · refine br_f z (zx_put 2 i (by omega) hi ?_)
    rw [zk_rw_up rfl (zk_dF_t hm).symm]
    exact nm_r (nI_1 r) (nm_r (nI_1 i) (h1 z))
theorem zx_del14 {post : Int32 → St2 → Prop} {l : Int32} {n p : Nat} {c : Nat → Int32} (hp : p < 24) (hn : n ≤ 24) : ∀ d i r, p ≤ i → i + d = n → post (nI (r + zk_cn (zk_dg p (fun q => c (2 * 24 + q))) d i)) (nI n, l, zk_rw (2 * 24) (zk_dF p (fun q => c (2 * 24 + q))) c n) → wX_delete_14 post (nI p) (d + 1) (nI r) (nI i) (nI n) l (zk_rw (2 * 24) (zk_dF p (fun q => c (2 * 24 + q))) c i) := by
  intro d
  induction d with
  | zero =>
    intro i r _ hi h
    have e : i = n := by omega
    subst e
    exact br_t (nI_le (Nat.le_refl i) (by omega)) h
  | succ d ih =>
    intro i r hpi hi h
    have body : (i = p ∨ zk_an p i = true) → wX_delete_35 post (wX_delete_14 post (nI p) (d + 1)) (nI p) (nI r) (nI i) (nI n) l (zk_rw (2 * 24) (zk_dF p (fun q => c (2 * 24 + q))) c i) := by
      intro hm
      refine zx_del35 (by omega) hm (fun z => ih (i + 1) r (by omega) (by omega) ?_) (fun z => ih (i + 1) (r + 1) (by omega) (by omega) ?_)
      · rw [zk_cn_f (zk_dg_0 (f := fun q => c (2 * 24 + q)) z)] at h
        exact h
      · rw [zk_cn_t (zk_dg_t (f := fun q => c (2 * 24 + q)) hm z), ← Nat.add_assoc] at h
        exact h
    refine br_f (nI_ge (a := i) (b := n) (by omega) (by omega)) (pk_eq i p (fun e => body (Or.inl e)) (fun ne => zx_ab p i hp (by omega) ?_))
    cases e : zk_an p i with
    | false =>
      have hm : ¬ (i = p ∨ zk_an p i = true) := by
        rintro (z | z)
        · exact ne z
        · rw [e] at z
          exact absurd z (by decide)
      refine br_t rfl (nm_r (nI_1 i) ?_)
      rw [zk_rw_st (zk_dF_n (f := fun q => c (2 * 24 + q)) hm)]
      rw [zk_cn_f (zk_dg_n (f := fun q => c (2 * 24 + q)) hm)] at h
      exact ih (i + 1) r (by omega) (by omega) h
    | true => exact br_f (by decide) (body (Or.inr e))
theorem zx_delete {post : Int32 → St2 → Prop} {l : Int32} {n p : Nat} {c : Nat → Int32} (hp : p < n) (hn : n ≤ 24) (h : post (nI (zk_cn (zk_dg p (fun q => c (2 * 24 + q))) n 0)) (nI n, l, zk_rw (2 * 24) (zk_dF p (fun q => c (2 * 24 + q))) c n)) : wpX_delete post (nI n, l, c) (nI p) := by
  unfold wpX_delete
  dsimp only
  refine zx_ip1 hp hn (br_f (by decide) ⟨n - p + 1, ?_⟩)
  have e : zk_rw (2 * 24) (zk_dF p (fun q => c (2 * 24 + q))) c p = c := zk_rw_id (fun q hq => zk_dF_n (f := fun q => c (2 * 24 + q)) (zk_nan (by omega) hq))
  have k := zx_del14 (post := post) (l := l) (n := n) (p := p) (c := c) (by omega) hn (n - p) p 0 (Nat.le_refl p) (by omega) (by
    have s := zk_cn_skip (g := zk_dg p (fun q => c (2 * 24 + q))) p (n - p) 0 (fun q _ hq => zk_dg_n (zk_nan (by omega) (by omega)))
    rw [show n - p + p = n from by omega, Nat.zero_add] at s
    rw [Nat.zero_add, ← s]
    exact h)
  rw [e] at k
  exact k
theorem zx_delete0 {post : Int32 → St2 → Prop} {l x : Int32} {n : Nat} {c : Nat → Int32} (hx : x < 0 ∨ nI n ≤ x) (h : post (-1) (nI n, l, c)) : wpX_delete post (nI n, l, c) x := by
  unfold wpX_delete
  dsimp only
  exact zx_ip0 hx (br_t rfl h)
end ZXB
end
section
section ZXC
/-! stage, copyTree, commit, targetFromHead -/
theorem zk_cF_t {p q : Nat} {f : Nat → Int32} (hm : zk_an q p = true ∨ zk_an p q = true) : zk_cF p f q = 0 := by
  unfold zk_cF
  rw [if_pos hm]
theorem zk_cF_n {p q : Nat} {f : Nat → Int32} (hm : ¬ (zk_an q p = true ∨ zk_an p q = true)) : zk_cF p f q = f q := by
  unfold zk_cF
  rw [if_neg hm]
theorem zx_cl26 {post : St2 → Prop} {J : Int32 → Int32 → Int32 → (Nat → Int32) → Prop} {N l : Int32} {c : Nat → Int32} (t : Nat) {p i : Nat} (ht : t < 6) (hi : i < 24) (hm : zk_an i p = true ∨ zk_an p i = true)
    (h : J (nI (i + 1)) N l (zk_rw (t * 24) (zk_cF p (fun q => c (t * 24 + q))) c (i + 1))) :
    wX_clearRelatives_26 post J (nI t) (nI p) (nI i) N l (zk_rw (t * 24) (zk_cF p (fun q => c (t * 24 + q))) c i) := by
  unfold wX_clearRelatives_26
  refine zx_put t i ht hi ?_
  rw [zk_rw_up rfl (zk_cF_t hm).symm]
  exact nm_r (nI_1 i) h
theorem zx_cl2 {post : St2 → Prop} {l : Int32} {n : Nat} {c : Nat → Int32} (t p : Nat) (ht : t < 6) (hp : p < 24) (hn : n ≤ 24) : ∀ d i, i + d = n → post (nI n, l, zk_rw (t * 24) (zk_cF p (fun q => c (t * 24 + q))) c n) → wX_clearRelatives_2 post (nI t) (nI p) (d + 1) (nI i) (nI n) l (zk_rw (t * 24) (zk_cF p (fun q => c (t * 24 + q))) c i) := by
  intro d
  induction d with
  | zero =>
    intro i hi h
    have e : i = n := by omega
    subst e
    exact br_t (nI_le (Nat.le_refl i) (by omega)) h
  | succ d ih =>
    intro i hi h
    refine br_f (nI_ge (a := i) (b := n) (by omega) (by omega)) (zx_ab i p (by omega) hp ?_)
    cases e : zk_an i p with
    | true => exact br_f (by decide) (zx_cl26 t ht (by omega) (Or.inl e) (ih (i + 1) (by omega) h))
    | false =>
      refine br_t rfl (zx_ab p i hp (by omega) ?_)
      cases e2 : zk_an p i with
      | true => exact br_f (by decide) (zx_cl26 t ht (by omega) (Or.inr e2) (ih (i + 1) (by omega) h))
      | false =>
        have hm : ¬ (zk_an i p = true ∨ zk_an p i = true) := by
          rw [e, e2]
          decide
        refine br_t rfl (nm_r (nI_1 i) ?_)
        rw [zk_rw_st (zk_cF_n (f := fun q => c (t * 24 + q)) hm)]
        exact ih (i + 1) (by omega) h
theorem zx_clear {post : St2 → Prop} {l : Int32} {n : Nat} {c : Nat → Int32} (t p : Nat) (ht : t < 6) (hp : p < 24) (hn : n ≤ 24) (h : post (nI n, l, zk_rw (t * 24) (zk_cF p (fun q => c (t * 24 + q))) c n)) : wpX_clearRelatives post (nI n, l, c) (nI t) (nI p) := by
  unfold wpX_clearRelatives
  dsimp only
  have k := zx_cl2 (post := post) (l := l) (n := n) (c := c) t p ht hp hn n 0 (by omega) h
  rw [zk_rw_0] at k
  exact ⟨n + 1, k⟩
def zk_sx (n : Nat) (c : Nat → Int32) (p : Nat) : Nat → Int32 :=
  if c (2 * 24 + p) = 0 then upd c (1 * 24 + p) (c (2 * 24 + p))
  else zk_rw (1 * 24) (zk_cF p (fun q => upd c (1 * 24 + p) (c (2 * 24 + p)) (1 * 24 + q))) (upd c (1 * 24 + p) (c (2 * 24 + p))) n
theorem zx_stage {post : Int32 → St2 → Prop} {l : Int32} {n p : Nat} {c : Nat → Int32} (hp : p < n) (hn : n ≤ 24) (h : post 1 (nI n, l, zk_sx n c p)) : wpX_stage post (nI n, l, c) (nI p) := by
  unfold wpX_stage
  dsimp only
  refine zx_ip1 hp hn (br_f (by decide) (zx_get 2 p (by omega) (by omega) rfl (zx_put 1 p (by omega) (by omega) ?_)))
  unfold zk_sx at h
  by_cases z : c (2 * 24 + p) = 0
  · rw [if_pos z] at h
    exact br_t z h
  · rw [if_neg z] at h
    exact br_f z (zx_clear 1 p (by omega) (by omega) hn h)
theorem zx_stage0 {post : Int32 → St2 → Prop} {l x : Int32} {n : Nat} {c : Nat → Int32} (hx : x < 0 ∨ nI n ≤ x) (h : post 0 (nI n, l, c)) : wpX_stage post (nI n, l, c) x := by
  unfold wpX_stage
  dsimp only
  exact zx_ip0 hx (br_t rfl h)
theorem zx_cp5 {post : Int32 → St2 → Prop} {l : Int32} {n : Nat} {c : Nat → Int32} (s t : Nat) (hs : s < 6) (ht : t < 6) (st : s ≠ t) (hn : n ≤ 24) : ∀ d i r, i + d = n → post (nI (r + zk_cn (zk_ne (fun q => c (t * 24 + q)) (fun q => c (s * 24 + q))) d i)) (nI n, l, zk_cp n s t c) → wX_copyTree_5 post (nI s) (nI t) (d + 1) (nI r) (nI i) (nI n) l (zk_rw (t * 24) (fun q => c (s * 24 + q)) c i) := by
  intro d
  induction d with
  | zero =>
    intro i r hi h
    have e : i = n := by omega
    subst e
    exact br_t (nI_le (Nat.le_refl i) (by omega)) h
  | succ d ih =>
    intro i r hi h
    refine br_f (nI_ge (a := i) (b := n) (by omega) (by omega)) (zx_get s i hs (by omega) (zk_rw_out (by omega)) (zx_get t i ht (by omega) (zk_rw_out (by omega)) ?_))
    by_cases z : c (t * 24 + i) = c (s * 24 + i)
    · refine br_t z (nm_r (nI_1 i) ?_)
      rw [zk_rw_st (F := fun q => c (s * 24 + q)) z.symm]
      rw [zk_cn_f (g := zk_ne (fun q => c (t * 24 + q)) (fun q => c (s * 24 + q))) (zk_nd0 z)] at h
      exact ih (i + 1) r (by omega) h
    · refine br_f z (zx_put t i ht (by omega) ?_)
      rw [zk_rw_up (F := fun q => c (s * 24 + q)) rfl rfl]
      rw [zk_cn_t (g := zk_ne (fun q => c (t * 24 + q)) (fun q => c (s * 24 + q))) (zk_nd z), ← Nat.add_assoc] at h
      exact nm_r (nI_1 r) (nm_r (nI_1 i) (ih (i + 1) (r + 1) (by omega) h))
theorem zx_cp {post : Int32 → St2 → Prop} {l : Int32} {n : Nat} {c : Nat → Int32} (s t : Nat) (hs : s < 6) (ht : t < 6) (st : s ≠ t) (hn : n ≤ 24) (h : post (nI (zk_cn (zk_ne (fun q => c (t * 24 + q)) (fun q => c (s * 24 + q))) n 0)) (nI n, l, zk_cp n s t c)) : wpX_copyTree post (nI n, l, c) (nI s) (nI t) := by
  unfold wpX_copyTree
  dsimp only
  have k := zx_cp5 (post := post) (l := l) (n := n) (c := c) s t hs ht st hn n 0 0 (by omega) (by rw [Nat.zero_add]; exact h)
  rw [zk_rw_0] at k
  exact ⟨n + 1, k⟩
theorem zx_commit {post : Int32 → St2 → Prop} {l : Int32} {n : Nat} {c : Nat → Int32} (hn : n ≤ 24) (h : post (nI (zk_cn (zk_ne (fun q => c (0 * 24 + q)) (fun q => c (1 * 24 + q))) n 0)) (nI n, l, zk_cp n 1 0 c)) : wpX_commit post (nI n, l, c) := by
  unfold wpX_commit
  dsimp only
  exact zx_cp 1 0 (by omega) (by omega) (by omega) hn h
theorem zx_tfh {post : St2 → Prop} {l : Int32} {n : Nat} {c : Nat → Int32} (hn : n ≤ 24) (h : post (nI n, l, zk_cp n 0 3 c)) : wpX_targetFromHead post (nI n, l, c) := by
  unfold wpX_targetFromHead
  dsimp only
  exact zx_cp 0 3 (by omega) (by omega) (by omega) hn h
end ZXC
section ZXD
/-! the plans -/
theorem zx_fw {post : Int32 → Prop} {l : Int32} {n p : Nat} {c : Nat → Int32} (hp : p < n) (hn : n ≤ 24) (h : post (zk_fw n (fun q => c (0 * 24 + q)) (fun q => c (1 * 24 + q)) (fun q => c (2 * 24 + q)) (fun q => c (3 * 24 + q)) p)) : wpX_forcedWork post (nI n, l, c) (nI p) := by
  unfold wpX_forcedWork
  dsimp only
  unfold zk_fw at h
  refine zx_get 3 p (by omega) (by omega) rfl (zx_get 0 p (by omega) (by omega) rfl ?_)
  by_cases z0 : c (0 * 24 + p) = 0
  · refine br_t z0 (zx_get 1 p (by omega) (by omega) rfl ?_)
    by_cases z1 : c (1 * 24 + p) = 0
    · refine br_t z1 ?_
      by_cases z3 : c (3 * 24 + p) = 0
      · rw [if_neg (by rintro (a | a | a) <;> exact a (by assumption))] at h
        refine br_t z3 (zx_fa 3 p (by omega) hp hn ?_)
        cases ea : zk_fa n (fun q => c (3 * 24 + q)) p with
        | true =>
          rw [if_pos (Or.inl ea)] at h
          exact br_f (by decide) h
        | false =>
          refine br_t rfl (zx_fb 3 p (by omega) hp hn ?_)
          cases eb : zk_fb n (fun q => c (3 * 24 + q)) p with
          | true =>
            rw [if_pos (Or.inr eb)] at h
            exact br_f (by decide) h
          | false =>
            rw [if_neg (by rw [ea, eb]; decide)] at h
            exact br_t rfl (zx_get 2 p (by omega) (by omega) rfl h)
      · rw [if_pos (Or.inr (Or.inr z3))] at h
        exact br_f z3 h
    · rw [if_pos (Or.inr (Or.inl z1))] at h
      exact br_f z1 h
  · rw [if_pos (Or.inl z0)] at h
    exact br_f z0 h
theorem zx_pe {post : St2 → Prop} {N l a b : Int32} {c : Nat → Int32} (p : Nat) (hp : p < 24) (h : post (N, l, upd (upd c (4 * 24 + p) a) (5 * 24 + p) b)) : wpX_planEntries post (N, l, c) (nI p) a b := by
  unfold wpX_planEntries
  dsimp only
  exact zx_put 4 p (by omega) hp (zx_put 5 p (by omega) hp h)
theorem zx_pf2 {post : Int32 → St2 → Prop} {l : Int32} {n : Nat} {c : Nat → Int32} (hn : n ≤ 24) : ∀ d i, i + d = n → post 0 (nI n, -1, zk_pl (fun q => c (3 * 24 + q)) (zk_fw n (fun q => c (0 * 24 + q)) (fun q => c (1 * 24 + q)) (fun q => c (2 * 24 + q)) (fun q => c (3 * 24 + q))) c n) → wX_planForced_2 post (d + 1) (nI i) (nI n) l (zk_pl (fun q => c (3 * 24 + q)) (zk_fw n (fun q => c (0 * 24 + q)) (fun q => c (1 * 24 + q)) (fun q => c (2 * 24 + q)) (fun q => c (3 * 24 + q))) c i) := by
  intro d
  induction d with
  | zero =>
    intro i hi h
    have e : i = n := by omega
    subst e
    exact br_t (nI_le (Nat.le_refl i) (by omega)) h
  | succ d ih =>
    intro i hi h
    refine br_f (nI_ge (a := i) (b := n) (by omega) (by omega)) (zx_get 3 i (by omega) (by omega) (zk_pl_k 3 (by omega) (by omega)) (zx_fw (by omega) hn (zx_pe i (by omega) ?_)))
    rw [zk_pl_up (by omega) rfl (zk_fw_c (fun q hq => zk_pl_k 0 (by omega) (by omega)) (fun q hq => zk_pl_k 1 (by omega) (by omega)) (fun q hq => zk_pl_k 2 (by omega) (by omega)) (fun q hq => zk_pl_k 3 (by omega) (by omega)) i (by omega))]
    exact nm_r (nI_1 i) (ih (i + 1) (by omega) h)
theorem zx_pf {post : Int32 → St2 → Prop} {l : Int32} {n : Nat} {c : Nat → Int32} (hn : n ≤ 24) (h : post 0 (nI n, -1, zk_pl (fun q => c (3 * 24 + q)) (zk_fw n (fun q => c (0 * 24 + q)) (fun q => c (1 * 24 + q)) (fun q => c (2 * 24 + q)) (fun q => c (3 * 24 + q))) c n)) : wpX_planForced post (nI n, l, c) := by
  unfold wpX_planForced
  dsimp only
  have k := zx_pf2 (post := post) (l := l) (n := n) (c := c) hn n 0 (by omega) h
  rw [zk_pl_0] at k
  exact ⟨n + 1, k⟩
theorem zx_pp74 {post : Int32 → St2 → Prop} {N l h i w t : Int32} {c : Nat → Int32} {p : Nat} (hp : p < 24) (n1 : ¬ h = t) (n2 : ¬ (w = i ∧ (i = h ∨ i = t)))
    (ok : zk_RF h i w t = 0 → post 0 (N, l, upd (upd c (4 * 24 + p) (zk_NI h i t)) (5 * 24 + p) (zk_NW h i w t)))
    (no : ¬ zk_RF h i w t = 0 → post (zk_RF h i w t) (N, l, c)) : wX_planPath_74 post (nI p) h i w t N l c := by
  unfold wX_planPath_74
  unfold zk_RF zk_NI zk_NW at ok
  unfold zk_RF at no
  rw [if_neg n1, if_neg n2] at no
  rw [if_neg n1, if_neg n2, if_neg n1, if_neg n1, if_neg n2] at ok
  by_cases z1 : i = t
  · rw [if_pos z1] at ok
    exact br_t z1 (zx_pe p hp (ok rfl))
  · rw [if_neg z1] at no
    refine br_f z1 ?_
    by_cases z2 : i = h
    · rw [if_neg (fun z => z z2)] at no
      refine br_t z2 ?_
      by_cases z3 : i = 0
      · rw [if_pos z3] at no
        exact br_t z3 (no (by decide))
      · rw [if_neg z3] at no
        exact br_f z3 (no (by decide))
    · rw [if_pos z2] at no
      exact br_f z2 (no (by decide))
theorem zx_pp {post : Int32 → St2 → Prop} {N l h i w t : Int32} {c : Nat → Int32} (p : Nat) (hp : p < 24) (eh : c (0 * 24 + p) = h) (ei : c (1 * 24 + p) = i) (ew : c (2 * 24 + p) = w) (et : c (3 * 24 + p) = t)
    (ok : zk_RF h i w t = 0 → post 0 (N, l, upd (upd c (4 * 24 + p) (zk_NI h i t)) (5 * 24 + p) (zk_NW h i w t)))
    (no : ¬ zk_RF h i w t = 0 → post (zk_RF h i w t) (N, l, c)) : wpX_planPath post (N, l, c) (nI p) := by
  unfold wpX_planPath
  dsimp only
  refine zx_get 0 p (by omega) hp eh (zx_get 1 p (by omega) hp ei (zx_get 2 p (by omega) hp ew (zx_get 3 p (by omega) hp et ?_)))
  by_cases n1 : h = t
  · unfold zk_RF zk_NI zk_NW at ok
    rw [if_pos n1, if_pos n1, if_pos n1] at ok
    exact br_t n1 (zx_pe p hp (ok rfl))
  · refine br_f n1 ?_
    by_cases n2 : w = i ∧ (i = h ∨ i = t)
    · unfold zk_RF zk_NI zk_NW at ok
      rw [if_neg n1, if_pos n2, if_neg n1, if_neg n1, if_pos n2] at ok
      refine br_t n2.1 ?_
      have k : wX_planPath_63 post (nI p) t N l c := by
        unfold wX_planPath_63
        exact zx_pe p hp (ok rfl)
      by_cases z : i = h
      · exact br_t z k
      · exact br_f z (br_t (n2.2.resolve_left z) k)
    · have k := zx_pp74 (post := post) (p := p) hp n1 n2 ok no
      by_cases z : w = i
      · refine br_t z (br_f (fun z2 => n2 ⟨z, Or.inl z2⟩) (br_f (fun z2 => n2 ⟨z, Or.inr z2⟩) k))
      · exact br_f z k
theorem zx_h57 {post J : Int32 → Prop} {N l : Int32} {c : Nat → Int32} {i : Nat} {a b : Bool} (ht : (a || b) = true → post (nI i)) (hf : (a || b) = false → J (nI (i + 1))) : wX_firstHidingPath_57 post J (nI i) (zk_b a) (zk_b b) N l c := by
  unfold wX_firstHidingPath_57
  cases a with
  | true => exact br_f (by decide) (ht rfl)
  | false =>
    cases b with
    | true => exact br_t rfl (br_f (by decide) (ht rfl))
    | false => exact br_t rfl (br_t rfl (nm_r (nI_1 i) (hf rfl)))
theorem zx_h33 {post J : Int32 → Prop} {l : Int32} {c : Nat → Int32} {n i : Nat} {a : Bool} (hi : i < n) (hn : n ≤ 24)
    (ht : (a || (!decide (c (5 * 24 + i) = 0) && zk_fb n (fun q => c (5 * 24 + q)) i)) = true → post (nI i))
    (hf : (a || (!decide (c (5 * 24 + i) = 0) && zk_fb n (fun q => c (5 * 24 + q)) i)) = false → J (nI (i + 1))) : wX_firstHidingPath_33 post J (nI i) (zk_b a) (nI n) l c := by
  unfold wX_firstHidingPath_33
  refine zx_get 5 i (by omega) (by omega) rfl ?_
  by_cases z : c (5 * 24 + i) = 0
  · rw [zk_nd0 z, Bool.false_and] at ht hf
    refine br_t z ?_
    unfold wX_firstHidingPath_56
    exact zx_h57 (b := false) ht hf
  · rw [zk_nd z, Bool.true_and] at ht hf
    refine br_f z (zx_fb 5 i (by omega) hi hn ?_)
    cases e : zk_fb n (fun q => c (5 * 24 + q)) i with
    | true =>
      rw [e] at ht hf
      exact br_f (by decide) (zx_h57 (b := true) ht hf)
    | false =>
      rw [e] at ht hf
      refine br_t rfl ?_
      unfold wX_firstHidingPath_56
      exact zx_h57 (b := false) ht hf
theorem zx_h2 {post : Int32 → Prop} {l : Int32} {c : Nat → Int32} {n : Nat} (hn : n ≤ 24) : ∀ d i, i + d = n → (zk_fst (zk_gh n (fun q => c (4 * 24 + q)) (fun q => c (5 * 24 + q))) d i < n → post (nI (zk_fst (zk_gh n (fun q => c (4 * 24 + q)) (fun q => c (5 * 24 + q))) d i))) → (¬ zk_fst (zk_gh n (fun q => c (4 * 24 + q)) (fun q => c (5 * 24 + q))) d i < n → post (-1)) → wX_firstHidingPath_2 post (nI n) l c (d + 1) (nI i) := by
  intro d
  induction d with
  | zero =>
    intro i hi _ h
    exact br_t (nI_le (a := n) (b := i) (by omega) (by omega)) (h (by show ¬ i < n; omega))
  | succ d ih =>
    intro i hi ht hf
    have T : zk_gh n (fun q => c (4 * 24 + q)) (fun q => c (5 * 24 + q)) i = true → post (nI i) := by
      intro e
      rw [zk_fst_t e] at ht
      exact ht (by omega)
    have F : zk_gh n (fun q => c (4 * 24 + q)) (fun q => c (5 * 24 + q)) i = false → wX_firstHidingPath_2 post (nI n) l c (d + 1) (nI (i + 1)) := by
      intro e
      rw [zk_fst_f e] at ht hf
      exact ih (i + 1) (by omega) ht hf
    unfold zk_gh at T F
    refine br_f (nI_ge (a := i) (b := n) (by omega) (by omega)) (zx_get 4 i (by omega) (by omega) rfl ?_)
    by_cases z : c (4 * 24 + i) = 0
    · rw [zk_nd0 z, Bool.false_and] at T F
      refine br_t z ?_
      unfold wX_firstHidingPath_32
      exact zx_h33 (a := false) (by omega) hn T F
    · rw [zk_nd z, Bool.true_and] at T F
      refine br_f z (zx_fb 4 i (by omega) (by omega) hn ?_)
      cases e : zk_fb n (fun q => c (4 * 24 + q)) i with
      | true =>
        rw [e] at T F
        exact br_f (by decide) (zx_h33 (a := true) (by omega) hn T F)
      | false =>
        rw [e] at T F
        refine br_t rfl ?_
        unfold wX_firstHidingPath_32
        exact zx_h33 (a := false) (by omega) hn T F
theorem zx_hid {post : Int32 → Prop} {l : Int32} {c A B : Nat → Int32} {n : Nat} (hn : n ≤ 24) (hA : ∀ q, q < n → c (4 * 24 + q) = A q) (hB : ∀ q, q < n → c (5 * 24 + q) = B q) (ht : zk_h n A B < n → post (nI (zk_h n A B))) (hf : ¬ zk_h n A B < n → post (-1)) : wpX_firstHidingPath post (nI n, l, c) := by
  unfold wpX_firstHidingPath
  dsimp only
  rw [← zk_h_c hA hB] at ht hf
  exact ⟨n + 1, zx_h2 hn n 0 (by omega) ht hf⟩
theorem zx_ps2 {post : Int32 → St2 → Prop} {l : Int32} {c H I W T : Nat → Int32} {n : Nat} (hn : n ≤ 24) (eH : ∀ q, q < n → c (0 * 24 + q) = H q) (eI : ∀ q, q < n → c (1 * 24 + q) = I q) (eW : ∀ q, q < n → c (2 * 24 + q) = W q) (eT : ∀ q, q < n → c (3 * 24 + q) = T q) : ∀ d i, i + d = n →
    (∀ m, m = zk_fst (zk_gr H I W T) d i → m < n → post (zk_RF (H m) (I m) (W m) (T m)) (nI n, nI m, zk_pl (zk_ni H I T) (zk_nw H I W T) c m)) →
    (zk_fst (zk_gr H I W T) d i = n → zk_h n (zk_ni H I T) (zk_nw H I W T) < n → post 4 (nI n, nI (zk_h n (zk_ni H I T) (zk_nw H I W T)), zk_pl (zk_ni H I T) (zk_nw H I W T) c n)) →
    (zk_fst (zk_gr H I W T) d i = n → ¬ zk_h n (zk_ni H I T) (zk_nw H I W T) < n → post 0 (nI n, -1, zk_pl (zk_ni H I T) (zk_nw H I W T) c n)) →
    wX_planSafe_2 post (d + 1) (nI i) (nI n) l (zk_pl (zk_ni H I T) (zk_nw H I W T) c i) := by
  intro d
  induction d with
  | zero =>
    intro i hi _ h4 h0
    have e : i = n := by omega
    subst e
    refine br_t (nI_le (Nat.le_refl i) (by omega)) (zx_hid hn (fun q hq => zk_pl_4 hq hn) (fun q hq => zk_pl_5 hq) (fun z => ?_) (fun z => ?_))
    · refine br_f (fun e => ?_) (h4 rfl z)
      have p := nI_pos (n := zk_h i (zk_ni H I T) (zk_nw H I W T)) (by omega)
      rw [e] at p
      exact p (by decide)
    · exact br_t rfl (h0 rfl z)
  | succ d ih =>
    intro i hi hr h4 h0
    refine br_f (nI_ge (a := i) (b := n) (by omega) (by omega)) (zx_pp i (by omega) ((zk_pl_k 0 (by omega) (by omega)).trans (eH i (by omega))) ((zk_pl_k 1 (by omega) (by omega)).trans (eI i (by omega))) ((zk_pl_k 2 (by omega) (by omega)).trans (eW i (by omega))) ((zk_pl_k 3 (by omega) (by omega)).trans (eT i (by omega))) (fun z => ?_) (fun z => ?_))
    · have g : zk_gr H I W T i = false := zk_nd0 z
      rw [zk_fst_f g] at hr h4 h0
      refine br_t rfl (nm_r (nI_1 i) ?_)
      rw [zk_pl_up (A := zk_ni H I T) (B := zk_nw H I W T) (a := zk_NI (H i) (I i) (T i)) (b := zk_NW (H i) (I i) (W i) (T i)) (by omega) rfl rfl]
      exact ih (i + 1) (by omega) hr h4 h0
    · have g : zk_gr H I W T i = true := zk_nd z
      rw [zk_fst_t g] at hr
      exact br_f z (hr i rfl (by omega))
theorem zx_ps {post : Int32 → St2 → Prop} {l : Int32} {c H I W T : Nat → Int32} {n : Nat} (hn : n ≤ 24) (eH : ∀ q, q < n → c (0 * 24 + q) = H q) (eI : ∀ q, q < n → c (1 * 24 + q) = I q) (eW : ∀ q, q < n → c (2 * 24 + q) = W q) (eT : ∀ q, q < n → c (3 * 24 + q) = T q) (h : post (zk_pa n H I W T) (nI n, zk_pr n H I W T, zk_pl (zk_ni H I T) (zk_nw H I W T) c (zk_m n H I W T))) : wpX_planSafe post (nI n, l, c) := by
  unfold wpX_planSafe
  dsimp only
  have le : zk_m n H I W T ≤ 0 + n := zk_fst_le n 0
  have k := zx_ps2 (post := post) (l := l) (c := c) hn eH eI eW eT n 0 (by omega) (fun m em hm => ?_) (fun em hh => ?_) (fun em hh => ?_)
  · rw [zk_pl_0] at k
    exact ⟨n + 1, k⟩
  · have em' : zk_m n H I W T = m := em.symm
    unfold zk_pa zk_pr at h
    rw [em', if_pos hm, if_pos hm] at h
    exact h
  · have em' : zk_m n H I W T = n := em
    unfold zk_pa zk_pr at h
    rw [em', if_neg (Nat.lt_irrefl n), if_neg (Nat.lt_irrefl n), if_pos hh, if_pos hh] at h
    exact h
  · have em' : zk_m n H I W T = n := em
    unfold zk_pa zk_pr at h
    rw [em', if_neg (Nat.lt_irrefl n), if_neg (Nat.lt_irrefl n), if_neg hh, if_neg hh] at h
    exact h
theorem zx_s15 {post : Int32 → St2 → Prop} {l z : Int32} {c : Nat → Int32} {n : Nat} (hn : n ≤ 24) (h0 : z = 0 → post z (nI n, l, zk_ap n c)) (h1 : ¬ z = 0 → post z (nI n, l, c)) : wX_switchTo_15 post z (nI n) l c := by
  unfold wX_switchTo_15
  by_cases e : z = 0
  · exact br_t e (zx_cp 3 0 (by omega) (by omega) (by omega) hn (zx_cp 4 1 (by omega) (by omega) (by omega) hn (zx_cp 5 2 (by omega) (by omega) (by omega) hn (h0 e))))
  · exact br_f e (h1 e)
theorem zx_sw0 {post : Int32 → St2 → Prop} {l : Int32} {c H I W T : Nat → Int32} {n : Nat} (hn : n ≤ 24) (eH : ∀ q, q < n → c (0 * 24 + q) = H q) (eI : ∀ q, q < n → c (1 * 24 + q) = I q) (eW : ∀ q, q < n → c (2 * 24 + q) = W q) (eT : ∀ q, q < n → c (3 * 24 + q) = T q)
    (h0 : zk_pa n H I W T = 0 → post (zk_pa n H I W T) (nI n, zk_pr n H I W T, zk_ap n (zk_pl (zk_ni H I T) (zk_nw H I W T) c (zk_m n H I W T))))
    (h1 : ¬ zk_pa n H I W T = 0 → post (zk_pa n H I W T) (nI n, zk_pr n H I W T, zk_pl (zk_ni H I T) (zk_nw H I W T) c (zk_m n H I W T))) : wpX_switchTo post (nI n, l, c) 0 := by
  unfold wpX_switchTo
  dsimp only
  exact br_t rfl (zx_ps hn eH eI eW eT (zx_s15 hn h0 h1))
theorem zx_sw1 {post : Int32 → St2 → Prop} {l : Int32} {c : Nat → Int32} {n : Nat} (hn : n ≤ 24)
    (h : post 0 (nI n, -1, zk_ap n (zk_pl (fun q => c (3 * 24 + q)) (zk_fw n (fun q => c (0 * 24 + q)) (fun q => c (1 * 24 + q)) (fun q => c (2 * 24 + q)) (fun q => c (3 * 24 + q))) c n))) : wpX_switchTo post (nI n, l, c) 1 := by
  unfold wpX_switchTo
  dsimp only
  exact br_f (by decide) (zx_pf hn (zx_s15 hn (fun _ => h) (fun z => absurd rfl z)))
end ZXD
section ZXE
/-! the readers -/
theorem zx_entry {post : Int32 → Prop} {l : Int32} {c : Nat → Int32} {n : Nat} (t p : Nat) (ht : t < 4) (hp : p < n) (hn : n ≤ 24) (h : post (c (t * 24 + p))) : wpX_entry post (nI n, l, c) (nI t) (nI p) := by
  unfold wpX_entry
  dsimp only
  exact zx_it1 ht (br_f (by decide) (zx_ip1 hp hn (br_f (by decide) (zx_get t p (by omega) (by omega) rfl h))))
theorem zx_entry0 {post : Int32 → Prop} {l x y : Int32} {c : Nat → Int32} {n : Nat} (hx : x < 0 ∨ 3 < x) (h : post (-1)) : wpX_entry post (nI n, l, c) x y := by
  unfold wpX_entry
  dsimp only
  exact zx_it0 hx (br_t rfl h)
theorem zx_entry1 {post : Int32 → Prop} {l y : Int32} {c : Nat → Int32} {n : Nat} (t : Nat) (ht : t < 4) (hy : y < 0 ∨ nI n ≤ y) (h : post (-1)) : wpX_entry post (nI n, l, c) (nI t) y := by
  unfold wpX_entry
  dsimp only
  exact zx_it1 ht (br_f (by decide) (zx_ip0 hy (br_t rfl h)))
end ZXE
end
section
section ZLA
/-! a plan that is not refused refuses no path; what it makes of a path -/
theorem zk_fst_hi {g : Nat → Bool} : ∀ d i, zk_fst g d i < i + d → g (zk_fst g d i) = true := by
  intro d
  induction d with
  | zero =>
    intro i h
    exact absurd (show i < i + 0 from h) (by omega)
  | succ d ih =>
    intro i h
    cases e : g i with
    | true =>
      rw [zk_fst_t e]
      exact e
    | false =>
      rw [zk_fst_f e] at h ⊢
      exact ih (i + 1) (by omega)
theorem zk_pa0 {n : Nat} {H I W T : Nat → Int32} (h : zk_pa n H I W T = 0) : zk_m n H I W T = n := by
  have le : zk_m n H I W T ≤ 0 + n := zk_fst_le n 0
  by_cases e : zk_m n H I W T < n
  · have g : zk_gr H I W T (zk_m n H I W T) = true := zk_fst_hi n 0 (by show zk_m n H I W T < 0 + n; omega)
    unfold zk_pa at h
    rw [if_pos e] at h
    unfold zk_gr at g
    rw [zk_nd0 h] at g
    exact absurd g (by decide)
  · omega
theorem zl_rf {n q : Nat} {H I W T : Nat → Int32} (h : zk_pa n H I W T = 0) (hq : q < n) : zk_RF (H q) (I q) (W q) (T q) = 0 := by
  have g : zk_gr H I W T q = false := zk_fst_lo n 0 q (by omega) (by show q < zk_m n H I W T; rw [zk_pa0 h]; exact hq)
  unfold zk_gr at g
  rw [Bool.not_eq_false', decide_eq_true_eq] at g
  exact g
theorem zl_ok {h i w t : Int32} (r : zk_RF h i w t = 0) : (zk_NI h i t = i ∨ zk_NI h i t = t) ∧ (i = h ∨ zk_NI h i t = i) ∧ (zk_NW h i w t = w ∨ zk_NW h i w t = t) ∧ (w = h ∨ zk_NW h i w t = w) := by
  unfold zk_RF at r
  unfold zk_NI zk_NW
  by_cases n1 : h = t
  · rw [if_pos n1, if_pos n1]
    exact ⟨Or.inl rfl, Or.inr rfl, Or.inl rfl, Or.inr rfl⟩
  · rw [if_neg n1] at r
    rw [if_neg n1, if_neg n1]
    by_cases n2 : w = i ∧ (i = h ∨ i = t)
    · rw [if_pos n2]
      obtain ⟨a, b | b⟩ := n2
      · exact ⟨Or.inr rfl, Or.inl b, Or.inr rfl, Or.inl (a.trans b)⟩
      · exact ⟨Or.inr rfl, Or.inr b.symm, Or.inr rfl, Or.inr (a.trans b).symm⟩
    · rw [if_neg n2] at r
      rw [if_neg n2]
      by_cases z : i = t
      · exact ⟨Or.inr rfl, Or.inr z.symm, Or.inl rfl, Or.inr rfl⟩
      · rw [if_neg z] at r
        by_cases z2 : i = h
        · rw [if_neg (fun y => y z2)] at r
          by_cases z3 : i = 0
          · rw [if_pos z3] at r
            exact absurd r (by decide)
          · rw [if_neg z3] at r
            exact absurd r (by decide)
        · rw [if_pos z2] at r
          exact absurd r (by decide)
end ZLA
section ZLB
/-! the law's own steps -/
def zl_v (L : Nat) (xs : Nat → Int32) (j : Nat) : Int32 := if L ≤ j then 0 else xs j
theorem zl_cell {post : Int32 → Prop} {L : Nat} {xs : Nat → Int32} {x : Int32} (j : Nat) (hx : x = nI j) (hL : L ≤ 260) (hj : j < 2 ^ 31) (h : post (zl_v L xs j)) : wpL_cell post L xs () x := by
  subst hx
  unfold wpL_cell
  unfold zl_v at h
  by_cases e : L ≤ j
  · rw [if_pos e] at h
    exact br_t (nI_le e hj) h
  · rw [if_neg e] at h
    refine br_f (nI_ge (a := j) (b := L) (by omega) (by omega)) ⟨vp_in_nI (by omega) (by omega), ?_⟩
    rw [nI_clamp hj]
    exact h
theorem zl_i1 (k : Nat) : 1 + 3 * nI k = nI (1 + 3 * k) := by
  rw [show (3 : Int32) = nI 3 from rfl, pk_mul, show (1 : Int32) = nI 1 from rfl, nI_add]
theorem zl_i2 (k : Nat) : 2 + 3 * nI k = nI (2 + 3 * k) := by
  rw [show (3 : Int32) = nI 3 from rfl, pk_mul, show (2 : Int32) = nI 2 from rfl, nI_add]
theorem zl_i3 (k : Nat) : 3 + 3 * nI k = nI (3 + 3 * k) := by
  rw [show (3 : Int32) = nI 3 from rfl, pk_mul, nI_add]
theorem zl_493 {post : Int32 → Prop} {L : Nat} {xs : Nat → Int32} {J59 : Int32 → Int32 → Int32 → (Nat → Int32) → Int32 → Int32 → (Nat → Int32) → Prop} {J315 : Int32 → Prop} {x4 x5 x6 x11 h w w2 f g f' g' : Int32} {kc ks i : Nat} {a a' : Nat → Int32} (c4 : w = h ∨ w2 = w) (nx : J315 (nI (i + 1))) : wL_law_493 post L xs J59 J315 x4 x5 x6 x11 (nI i) h w w2 kc ks f g a f' g' a' := by
  unfold wL_law_493
  by_cases e : w = h
  · exact br_t e (nm_r (nI_1 i) nx)
  · exact br_f e (br_t (c4.resolve_left e) (nm_r (nI_1 i) nx))
theorem zl_477 {post : Int32 → Prop} {L : Nat} {xs : Nat → Int32} {J59 : Int32 → Int32 → Int32 → (Nat → Int32) → Int32 → Int32 → (Nat → Int32) → Prop} {J315 : Int32 → Prop} {x4 x5 x6 x11 h w t w2 f g f' g' : Int32} {kc ks i : Nat} {a a' : Nat → Int32} (c3 : w2 = w ∨ w2 = t) (c4 : w = h ∨ w2 = w) (nx : J315 (nI (i + 1))) : wL_law_477 post L xs J59 J315 x4 x5 x6 x11 (nI i) h w t w2 kc ks f g a f' g' a' := by
  unfold wL_law_477
  by_cases e : w2 = w
  · exact br_t e (zl_493 c4 nx)
  · exact br_f e (br_t (c3.resolve_left e) (zl_493 c4 nx))
theorem zl_461 {post : Int32 → Prop} {L : Nat} {xs : Nat → Int32} {J59 : Int32 → Int32 → Int32 → (Nat → Int32) → Int32 → Int32 → (Nat → Int32) → Prop} {J315 : Int32 → Prop} {x4 x5 x6 x11 h i0 w t i2 w2 f g f' g' : Int32} {kc ks i : Nat} {a a' : Nat → Int32} (c2 : i0 = h ∨ i2 = i0) (c3 : w2 = w ∨ w2 = t) (c4 : w = h ∨ w2 = w) (nx : J315 (nI (i + 1))) : wL_law_461 post L xs J59 J315 x4 x5 x6 x11 (nI i) h i0 w t i2 w2 kc ks f g a f' g' a' := by
  unfold wL_law_461
  by_cases e : i0 = h
  · exact br_t e (zl_477 c3 c4 nx)
  · exact br_f e (br_t (c2.resolve_left e) (zl_477 c3 c4 nx))
/-- what the law asks of one path: x 0: refused, nothing changed; else the switch lost nothing -/
def zl_C (x h i w t h2 i2 w2 t2 : Int32) : Prop := (x = 0 → h2 = h ∧ i2 = i ∧ w2 = w ∧ t2 = t) ∧ (¬ x = 0 → h2 = t ∧ t2 = t ∧ (i2 = i ∨ i2 = t) ∧ (i = h ∨ i2 = i) ∧ (w2 = w ∨ w2 = t) ∧ (w = h ∨ w2 = w))
theorem zl_315 {post : Int32 → Prop} {L : Nat} {xs : Nat → Int32} {J : Int32 → Int32 → Int32 → (Nat → Int32) → Int32 → Int32 → (Nat → Int32) → Prop} {n k kc ks : Nat} {x5 x11 l la r' l' : Int32} {c ca c' : Nat → Int32} (hn : n ≤ 24)
    (hJ : J (nI (k + 1)) (nI n) la ca (nI n) l' c')
    (hb : ∀ P : Int32 → St2 → Prop, P r' (nI n, l', c') → wpX_switchTo P (nI n, l, c) 0)
    (hq : ∀ q, q < n → zl_C x11 (c (0 * 24 + q)) (c (1 * 24 + q)) (c (2 * 24 + q)) (c (3 * 24 + q)) (ca (0 * 24 + q)) (ca (1 * 24 + q)) (ca (2 * 24 + q)) (ca (3 * 24 + q))) :
    ∀ d i, i + d = n → wL_law_315 post L xs J (nI n) x5 (nI k) x11 kc ks (nI n) la ca (nI n) l c (d + 1) (nI i) := by
  intro d
  induction d with
  | zero =>
    intro i hi
    exact br_t (nI_le (a := n) (b := i) (by omega) (by omega)) (hb _ (nm_r (nI_1 k) hJ))
  | succ d ih =>
    intro i hi
    have nx := ih (i + 1) (by omega)
    have hp : i < n := by omega
    refine br_f (nI_ge (a := i) (b := n) (by omega) (by omega)) (zx_entry 0 i (by omega) hp hn (zx_entry 1 i (by omega) hp hn (zx_entry 2 i (by omega) hp hn (zx_entry 3 i (by omega) hp hn (zx_entry 0 i (by omega) hp hn (zx_entry 1 i (by omega) hp hn (zx_entry 2 i (by omega) hp hn (zx_entry 3 i (by omega) hp hn ?_))))))))
    refine br_c (fun z => ?_) (fun z => ?_)
    · obtain ⟨b0, b1, b2, b3⟩ := (hq i hp).1 z
      exact br_t b0 (br_t b1 (br_t b2 (br_t b3 (nm_r (nI_1 i) nx))))
    · obtain ⟨b0, b3, c1, c2, c3, c4⟩ := (hq i hp).2 z
      refine br_t b0 (br_t b3 ?_)
      by_cases e : ca (1 * 24 + i) = c (1 * 24 + i)
      · exact br_t e (zl_461 c2 c3 c4 nx)
      · exact br_f e (br_t (c1.resolve_left e) (zl_461 c2 c3 c4 nx))
theorem zl_check {post : Int32 → Prop} {L : Nat} {xs : Nat → Int32} {J : Int32 → Int32 → Int32 → (Nat → Int32) → Int32 → Int32 → (Nat → Int32) → Prop} {n k kc ks : Nat} {x5 l : Int32} {c : Nat → Int32} (hn : n ≤ 24) (hJ : ∀ l' c', J (nI (k + 1)) (nI n) l' c' (nI n) l' c') :
    wpX_switchTo (fun r u => match u with | (p, l1, c1) => (((r = 0 → (∃ fu : Nat, wL_law_315 post L xs J (nI n) x5 (nI k) 1 kc ks p l1 c1 (nI n) l c fu 0)) ∧ (¬ r = 0 → (∃ fu : Nat, wL_law_315 post L xs J (nI n) x5 (nI k) 0 kc ks p l1 c1 (nI n) l c fu 0))))) (nI n, l, c) 0 := by
  refine zx_sw0 (H := fun q => c (0 * 24 + q)) (I := fun q => c (1 * 24 + q)) (W := fun q => c (2 * 24 + q)) (T := fun q => c (3 * 24 + q)) hn (fun _ _ => rfl) (fun _ _ => rfl) (fun _ _ => rfl) (fun _ _ => rfl) (fun z => ?_) (fun z => ?_)
  · refine br_t z ⟨n + 1, zl_315 hn (hJ _ _) (fun P h => zx_sw0 (H := fun q => c (0 * 24 + q)) (I := fun q => c (1 * 24 + q)) (W := fun q => c (2 * 24 + q)) (T := fun q => c (3 * 24 + q)) hn (fun _ _ => rfl) (fun _ _ => rfl) (fun _ _ => rfl) (fun _ _ => rfl) (fun _ => h) (fun z' => absurd z z')) (fun q hq => ⟨fun y => absurd y (by decide), fun _ => ?_⟩) n 0 (by omega)⟩
    rw [zk_pa0 z]
    rw [zk_ap_0 hq hn, zk_ap_1 hq hn, zk_ap_2 hq hn, zk_ap_3 hq hn, zk_pl_k 3 (by omega) (by omega), zk_pl_4 hq hn, zk_pl_5 hq]
    have o := zl_ok (zl_rf (n := n) z hq)
    exact ⟨rfl, rfl, o.1, o.2.1, o.2.2.1, o.2.2.2⟩
  · refine br_f z ⟨n + 1, zl_315 hn (hJ _ _) (fun P h => zx_sw0 (H := fun q => c (0 * 24 + q)) (I := fun q => c (1 * 24 + q)) (W := fun q => c (2 * 24 + q)) (T := fun q => c (3 * 24 + q)) hn (fun _ _ => rfl) (fun _ _ => rfl) (fun _ _ => rfl) (fun _ _ => rfl) (fun z' => absurd z' z) (fun _ => h)) (fun q hq => ⟨fun _ => ?_, fun y => absurd rfl y⟩) n 0 (by omega)⟩
    rw [zk_pl_k 0 (by omega) (by omega), zk_pl_k 1 (by omega) (by omega), zk_pl_k 2 (by omega) (by omega), zk_pl_k 3 (by omega) (by omega)]
    exact ⟨rfl, rfl, rfl, rfl⟩
theorem zl_91 {post : Int32 → Prop} {L : Nat} {xs : Nat → Int32} {J : Int32 → Int32 → Int32 → (Nat → Int32) → Int32 → Int32 → (Nat → Int32) → Prop} {n k kc ks : Nat} {x5 z0 l : Int32} {c : Nat → Int32} (hL : L ≤ 260) (hk : k ≤ 100) (h8 : 8 ≤ n) (hn : n ≤ 24) (hJ : ∀ l' c', J (nI (k + 1)) (nI n) l' c' (nI n) l' c') : wL_law_91 post L xs J (nI n) x5 (nI k) z0 kc ks (nI n) l c (nI n) l c := by
  unfold wL_law_91
  refine zl_cell (2 + 3 * k) (zl_i2 k) hL (by omega) ⟨nI_ne0 (by omega) (by omega), ?_⟩
  obtain ⟨m, hm, em⟩ := pk_andE (zl_v L xs (2 + 3 * k)) (m := 31) 5 (by decide)
  have ep : (zl_v L xs (2 + 3 * k) &&& 31) - (zl_v L xs (2 + 3 * k) &&& 31) / nI n * nI n = nI (m % n) := by
    rw [em]
    exact pk_rem (by omega) (by omega) (by omega)
  have hp : m % n < n := Nat.mod_lt _ (by omega)
  refine nm_r ep (zl_cell (3 + 3 * k) (zl_i3 k) hL (by omega) (nm_e ?_))
  have k136 : wL_law_136 post L xs J (nI n) x5 (nI k) (nI (m % n)) (zl_v L xs (3 + 3 * k) &&& 3) kc ks (nI n) l c (nI n) l c := by
    unfold wL_law_136
    exact zx_write hp hn (zx_write hp hn (nm_r (nI_1 k) (hJ _ _)))
  refine br_c (fun _ => k136) (fun _ => br_c (fun _ => k136) (fun _ => br_c (fun _ => ?_) (fun _ => br_c (fun _ => ?_) (fun _ => br_c (fun _ => br_c (fun _ => ?_) (fun _ => ?_)) (fun _ => br_c (fun _ => ?_) (fun _ => br_c (fun _ => ?_) (fun _ => ?_)))))))
  · exact zx_delete hp hn (zx_delete hp hn (nm_r (nI_1 k) (hJ _ _)))
  · exact zx_stage hp hn (zx_stage hp hn (nm_r (nI_1 k) (hJ _ _)))
  · exact zx_commit hn (zx_commit hn (nm_r (nI_1 k) (hJ _ _)))
  · exact zx_sw1 hn (zx_sw1 hn (nm_r (nI_1 k) (hJ _ _)))
  · exact zx_setTarget hp hn (zx_setTarget hp hn (nm_r (nI_1 k) (hJ _ _)))
  · exact zx_tfh hn (zx_tfh hn (nm_r (nI_1 k) (hJ _ _)))
  · exact zl_check hn hJ
theorem zl_59 {post : Int32 → Prop} {L : Nat} {xs : Nat → Int32} {n S kc ks : Nat} (h1 : post 1) (hL : L ≤ 260) (hS : S ≤ 100) (h8 : 8 ≤ n) (hn : n ≤ 24) : ∀ d k l c, k + d = S + 1 → wL_law_59 post L xs (nI n) (nI S) kc ks (d + 1) (nI k) (nI n) l c (nI n) l c := by
  intro d
  induction d with
  | zero =>
    intro k l c hk
    exact br_t (nI_lt (a := S) (b := k) (by omega) (by omega)) h1
  | succ d ih =>
    intro k l c hk
    refine br_f (nI_nlt (a := S) (b := k) (by omega) (by omega)) (pk_eq k S (fun _ => ?_) (fun _ => ?_))
    · exact zl_91 hL (by omega) h8 hn (fun l' c' => ih (k + 1) l' c' (by omega))
    · exact zl_cell (1 + 3 * k) (zl_i1 k) hL (by omega) (zl_91 hL (by omega) h8 hn (fun l' c' => ih (k + 1) l' c' (by omega)))
theorem zl_init (x : Int32) : ∃ n : Nat, 8 ≤ n ∧ n ≤ 24 ∧ ∀ post : St2 → Prop, post (nI n, -1, fun _ => 0) → wpX_init post 1 144 (0, 0) x := by
  by_cases h8 : 8 ≤ x
  · by_cases h24 : x ≤ 24
    · obtain ⟨n, hn, rfl⟩ := nI_of2 (M := 24) (n := 24) (by decide) (Int32.not_lt.mpr (Int32.le_trans (by decide) h8)) h24
      refine ⟨n, (nI_leI (a := 8) (b := n) (by omega) (by omega)).mp h8, hn, fun post h => ?_⟩
      unfold wpX_init
      dsimp only
      exact ⟨by omega, by omega, br_t h8 (br_t h24 h)⟩
    · refine ⟨24, by omega, by omega, fun post h => ?_⟩
      unfold wpX_init
      dsimp only
      exact ⟨by omega, by omega, br_t h8 (br_f h24 h)⟩
  · refine ⟨8, by omega, by omega, fun post h => ?_⟩
    unfold wpX_init
    dsimp only
    exact ⟨by omega, by omega, br_f h8 h⟩
theorem zl_st (L : Nat) (hL : L ≤ 260) : (Int32.ofNat L - 1) / 3 = nI ((L - 1) / 3) := by
  cases L with
  | zero => decide
  | succ m =>
    show (nI (m + 1) - 1) / 3 = nI ((m + 1 - 1) / 3)
    rw [nI_pred, show (3 : Int32) = nI 3 from rfl, pk_div (by omega) (by omega) (by omega), Nat.add_sub_cancel]
end ZLB
end
section
section ZLC
theorem i_vc (xs : Nat → Int32) (L : Nat) (hL : L ≤ 260) : wpL_law (fun r => r = 1) L xs := by
  unfold wpL_law
  obtain ⟨n, h8, hn, hi⟩ := zl_init (zl_v L xs 0 &&& 31)
  refine zl_cell 0 rfl hL (by omega) ⟨1, 144, by omega, by omega, hi _ ⟨by omega, by omega, zl_cell 0 rfl hL (by omega) ⟨1, 144, by omega, by omega, hi _ ?_⟩⟩⟩
  unfold wpX_size
  dsimp only
  exact ⟨by decide, nm_r (zl_st L hL) (br_t (nI_pos' (by omega)) ⟨(L - 1) / 3 + 1 + 1, zl_59 (post := fun r => r = 1) (S := (L - 1) / 3) rfl hL (by omega) h8 hn ((L - 1) / 3 + 1) 0 _ _ (by omega)⟩)⟩
end ZLC
end
