section
section ZKA
/-! numbers and stores (pasted pure rows of the kit) -/
theorem pk_us {f : Nat → Int32} {k : Nat} {x : Int32} : upd f k x k = x := if_pos rfl
theorem pk_un {f : Nat → Int32} {k j : Nat} {x : Int32} (h : j ≠ k) : upd f k x j = f j := if_neg h
theorem pk_sub {a b : Nat} (h : b ≤ a) : nI a - nI b = nI (a - b) := by
  obtain ⟨c, rfl⟩ : ∃ c, a = c + b := ⟨a - b, by omega⟩
  rw [← nI_add, Int32.add_sub_cancel, Nat.add_sub_cancel]
theorem pk_mul (a b : Nat) : nI a * nI b = nI (a * b) := (Int32.ofNat_mul a b).symm
theorem pk_div {a d : Nat} (ha : a < 2 ^ 31) (h0 : 0 < d) (hd : d < 2 ^ 31) : nI a / nI d = nI (a / d) := by
  apply Int32.toInt_inj.mp
  rw [lg_idiv_nonneg (by rw [nI_toInt ha]; omega) (by rw [nI_toInt hd]; omega), nI_toInt ha, nI_toInt hd, nI_toInt (Nat.lt_of_le_of_lt (Nat.div_le_self a d) ha)]
  first | rfl | exact (Int.natCast_ediv _ _).symm
theorem pk_ix (x : Int32) {n : Nat} (hn : n < 2 ^ 31) : x < 0 ∨ nI n ≤ x ∨ ∃ j : Nat, j < n ∧ x = nI j := by
  by_cases h : x < 0
  · exact Or.inl h
  · obtain ⟨j, hj, rfl⟩ := nI_of h
    by_cases h2 : j < n
    · exact Or.inr (Or.inr ⟨j, h2, rfl⟩)
    · exact Or.inr (Or.inl (nI_le (by omega) hj))
theorem pk_le {x y : Int32} {A B : Prop} (a b : Nat) (f : a ≤ b → A) (g : b < a → B) (hx : x = nI a := by rfl) (hy : y = nI b := by rfl) (ha : a < 2 ^ 31 := by omega) (hb : b < 2 ^ 31 := by omega) : (x ≤ y → A) ∧ (¬ x ≤ y → B) := by
  subst hx hy
  rw [nI_leI ha hb]
  exact ⟨f, fun z => g (by omega)⟩
theorem pk_lt {x y : Int32} {A B : Prop} (a b : Nat) (f : a < b → A) (g : b ≤ a → B) (hx : x = nI a := by rfl) (hy : y = nI b := by rfl) (ha : a < 2 ^ 31 := by omega) (hb : b < 2 ^ 31 := by omega) : (x < y → A) ∧ (¬ x < y → B) := by
  subst hx hy
  rw [nI_ltI ha hb]
  exact ⟨f, fun z => g (by omega)⟩
theorem pk_eq {x y : Int32} {A B : Prop} (a b : Nat) (f : a = b → A) (g : a ≠ b → B) (hx : x = nI a := by rfl) (hy : y = nI b := by rfl) (ha : a < 2 ^ 31 := by omega) (hb : b < 2 ^ 31 := by omega) : (x = y → A) ∧ (¬ x = y → B) := by
  subst hx hy
  rw [nI_eq ha hb]
  exact ⟨f, g⟩
theorem pk_in {x : Int32} (n N : Nat) (h : n < N) (hx : x = nI n := by rfl) (hN : N < 2 ^ 31 := by omega) : vp_in x N := by
  subst hx
  exact vp_in_nI h hN
theorem pk_cl {x : Int32} (n : Nat) (hx : x = nI n := by rfl) (h : n < 2 ^ 31 := by omega) : x.toNatClampNeg = n := by
  subst hx
  exact nI_clamp h
end ZKA
section ZKB
/-! the ancestors: climbing by x / 4 - 1 -/
def zk_up (a : Nat) : Nat → Nat → Bool
  | 0, _ => false
  | k + 1, x => if x < 4 then false else if x / 4 - 1 = a then true else zk_up a k (x / 4 - 1)
def zk_an (a q : Nat) : Bool := zk_up a 8 q
theorem zk_an24 : ∀ a, a < 24 → ∀ q, q < 24 → zk_up a 24 q = zk_an a q := by decide +kernel
theorem zk_anlt : ∀ a, a < 24 → ∀ q, q < 24 → zk_an a q = true → a < q := by decide +kernel
def zk_b : Bool → Int32
  | true => 1
  | false => 0
theorem zk_b0 {x : Bool} (h : x = false) : zk_b x = 0 := by rw [h]; rfl
theorem zk_b1 {x : Bool} (h : x = true) : ¬ zk_b x = 0 := by rw [h]; decide
/-! scans: is there one, how many, which is the first -/
def zk_any (g : Nat → Bool) : Nat → Nat → Bool
  | 0, _ => false
  | d + 1, i => g i || zk_any g d (i + 1)
theorem zk_any_iff (g : Nat → Bool) : ∀ d i, zk_any g d i = true ↔ ∃ q, i ≤ q ∧ q < i + d ∧ g q = true := by
  intro d
  induction d with
  | zero =>
    intro i
    constructor
    · intro h
      exact absurd h (by simp [zk_any])
    · rintro ⟨q, a, b, _⟩
      omega
  | succ d ih =>
    intro i
    rw [zk_any, Bool.or_eq_true, ih]
    constructor
    · rintro (h | ⟨q, a, b, c⟩)
      · exact ⟨i, Nat.le_refl _, by omega, h⟩
      · exact ⟨q, by omega, by omega, c⟩
    · rintro ⟨q, a, b, c⟩
      by_cases e : q = i
      · exact Or.inl (e ▸ c)
      · exact Or.inr ⟨q, by omega, by omega, c⟩
theorem zk_any_eq {g g' : Nat → Bool} {d i d' i' : Nat} (h : (∃ q, i ≤ q ∧ q < i + d ∧ g q = true) ↔ ∃ q, i' ≤ q ∧ q < i' + d' ∧ g' q = true) : zk_any g d i = zk_any g' d' i' := by
  rw [Bool.eq_iff_iff, zk_any_iff, zk_any_iff]
  exact h
theorem zk_any_c {g g' : Nat → Bool} {d i : Nat} (h : ∀ q, i ≤ q → q < i + d → g q = g' q) : zk_any g d i = zk_any g' d i := by
  apply zk_any_eq
  constructor
  · rintro ⟨q, a, b, c⟩
    exact ⟨q, a, b, by rw [← h q a b]; exact c⟩
  · rintro ⟨q, a, b, c⟩
    exact ⟨q, a, b, by rw [h q a b]; exact c⟩
def zk_ga (f : Nat → Int32) (p q : Nat) : Bool := !decide (f q = 0) && zk_an q p
def zk_gb (f : Nat → Int32) (p q : Nat) : Bool := !decide (f q = 0) && zk_an p q
def zk_fa (n : Nat) (f : Nat → Int32) (p : Nat) : Bool := zk_any (zk_ga f p) n 0
def zk_fb (n : Nat) (f : Nat → Int32) (p : Nat) : Bool := zk_any (zk_gb f p) n 0
theorem zk_gaT {f : Nat → Int32} {p q : Nat} (h : zk_ga f p q = true) : ¬ f q = 0 ∧ zk_an q p = true := by
  unfold zk_ga at h
  rw [Bool.and_eq_true, Bool.not_eq_true', decide_eq_false_iff_not] at h
  exact h
theorem zk_gbT {f : Nat → Int32} {p q : Nat} (h : zk_gb f p q = true) : ¬ f q = 0 ∧ zk_an p q = true := by
  unfold zk_gb at h
  rw [Bool.and_eq_true, Bool.not_eq_true', decide_eq_false_iff_not] at h
  exact h
theorem zk_ga0 {f : Nat → Int32} {p q : Nat} (h : f q = 0) : zk_ga f p q = false := by
  unfold zk_ga
  rw [decide_eq_true h]
  rfl
theorem zk_gb0 {f : Nat → Int32} {p q : Nat} (h : f q = 0) : zk_gb f p q = false := by
  unfold zk_gb
  rw [decide_eq_true h]
  rfl
theorem zk_ga1 {f : Nat → Int32} {p q : Nat} (h : ¬ f q = 0) : zk_ga f p q = zk_an q p := by
  unfold zk_ga
  rw [decide_eq_false h]
  rfl
theorem zk_gb1 {f : Nat → Int32} {p q : Nat} (h : ¬ f q = 0) : zk_gb f p q = zk_an p q := by
  unfold zk_gb
  rw [decide_eq_false h]
  rfl
theorem zk_fa_x {n p : Nat} {f : Nat → Int32} (hp : p < n) (hn : n ≤ 24) : zk_any (zk_ga f p) p 0 = zk_fa n f p := by
  apply zk_any_eq
  constructor
  · rintro ⟨q, a, b, c⟩
    exact ⟨q, a, by omega, c⟩
  · rintro ⟨q, a, b, c⟩
    have := zk_anlt q (by omega) p (by omega) (zk_gaT c).2
    exact ⟨q, a, by omega, c⟩
theorem zk_fb_x {n p : Nat} {f : Nat → Int32} (hp : p < n) (hn : n ≤ 24) : zk_any (zk_gb f p) (n - (p + 1)) (p + 1) = zk_fb n f p := by
  apply zk_any_eq
  constructor
  · rintro ⟨q, a, b, c⟩
    exact ⟨q, by omega, by omega, c⟩
  · rintro ⟨q, a, b, c⟩
    have := zk_anlt p (by omega) q (by omega) (zk_gbT c).2
    exact ⟨q, by omega, by omega, c⟩
theorem zk_fa_c {n p : Nat} {f g : Nat → Int32} (h : ∀ q, q < n → f q = g q) : zk_fa n f p = zk_fa n g p := by
  apply zk_any_c
  intro q _ b
  unfold zk_ga
  rw [h q (by omega)]
theorem zk_fb_c {n p : Nat} {f g : Nat → Int32} (h : ∀ q, q < n → f q = g q) : zk_fb n f p = zk_fb n g p := by
  apply zk_any_c
  intro q _ b
  unfold zk_gb
  rw [h q (by omega)]
def zk_cn (g : Nat → Bool) : Nat → Nat → Nat
  | 0, _ => 0
  | d + 1, i => (if g i = true then 1 else 0) + zk_cn g d (i + 1)
theorem zk_cn_c {g g' : Nat → Bool} : ∀ d i, (∀ q, i ≤ q → q < i + d → g q = g' q) → zk_cn g d i = zk_cn g' d i := by
  intro d
  induction d with
  | zero => intro i _; rfl
  | succ d ih =>
    intro i h
    rw [zk_cn, zk_cn, h i (Nat.le_refl _) (by omega), ih (i + 1) (fun q a b => h q (by omega) (by omega))]
theorem zk_cn_t {g : Nat → Bool} {d i : Nat} (h : g i = true) : zk_cn g (d + 1) i = 1 + zk_cn g d (i + 1) := by
  rw [zk_cn, if_pos h]
theorem zk_cn_f {g : Nat → Bool} {d i : Nat} (h : g i = false) : zk_cn g (d + 1) i = zk_cn g d (i + 1) := by
  rw [zk_cn, h, if_neg (by decide), Nat.zero_add]
theorem zk_cn_skip {g : Nat → Bool} : ∀ a d i, (∀ q, i ≤ q → q < i + a → g q = false) → zk_cn g (d + a) i = zk_cn g d (i + a) := by
  intro a
  induction a with
  | zero => intro d i _; rfl
  | succ a ih =>
    intro d i h
    rw [show d + (a + 1) = (d + a) + 1 from by omega, zk_cn_f (h i (Nat.le_refl _) (by omega)), ih d (i + 1) (fun q x y => h q (by omega) (by omega))]
    exact congrArg (zk_cn g d) (by omega)
def zk_fst (g : Nat → Bool) : Nat → Nat → Nat
  | 0, i => i
  | d + 1, i => if g i = true then i else zk_fst g d (i + 1)
theorem zk_fst_t {g : Nat → Bool} {d i : Nat} (h : g i = true) : zk_fst g (d + 1) i = i := by
  rw [zk_fst, if_pos h]
theorem zk_fst_f {g : Nat → Bool} {d i : Nat} (h : g i = false) : zk_fst g (d + 1) i = zk_fst g d (i + 1) := by
  rw [zk_fst, h, if_neg (by decide)]
theorem zk_fst_c {g g' : Nat → Bool} : ∀ d i, (∀ q, i ≤ q → q < i + d → g q = g' q) → zk_fst g d i = zk_fst g' d i := by
  intro d
  induction d with
  | zero => intro i _; rfl
  | succ d ih =>
    intro i h
    rw [zk_fst, zk_fst, h i (Nat.le_refl _) (by omega), ih (i + 1) (fun q a b => h q (by omega) (by omega))]
theorem zk_fst_le {g : Nat → Bool} : ∀ d i, zk_fst g d i ≤ i + d := by
  intro d
  induction d with
  | zero => intro i; exact Nat.le_refl _
  | succ d ih =>
    intro i
    rw [zk_fst]
    split
    · omega
    · have := ih (i + 1)
      omega
theorem zk_fst_lo {g : Nat → Bool} : ∀ d i q, i ≤ q → q < zk_fst g d i → g q = false := by
  intro d
  induction d with
  | zero =>
    intro i q a b
    have b' : q < i := b
    omega
  | succ d ih =>
    intro i q a b
    rw [zk_fst] at b
    split at b
    · omega
    · rename_i h
      by_cases e : q = i
      · rw [e]
        exact Bool.eq_false_iff.mpr h
      · exact ih (i + 1) q (by omega) b
end ZKB
section ZKC
/-! a range of a store written over: from b on, i cells hold F -/
def zk_rw (b : Nat) (F c : Nat → Int32) (i : Nat) : Nat → Int32 := fun j => if b ≤ j ∧ j < b + i then F (j - b) else c j
theorem zk_rw_in {b : Nat} {F c : Nat → Int32} {i q : Nat} (h : q < i) : zk_rw b F c i (b + q) = F q := by
  unfold zk_rw
  rw [if_pos ⟨by omega, by omega⟩, Nat.add_sub_cancel_left]
theorem zk_rw_out {b : Nat} {F c : Nat → Int32} {i j : Nat} (h : j < b ∨ b + i ≤ j) : zk_rw b F c i j = c j := by
  unfold zk_rw
  rw [if_neg (by omega)]
theorem zk_rw_0 {b : Nat} {F c : Nat → Int32} : zk_rw b F c 0 = c := by
  funext j
  exact zk_rw_out (by omega)
theorem zk_rw_id {b : Nat} {F c : Nat → Int32} {i : Nat} (h : ∀ q, q < i → F q = c (b + q)) : zk_rw b F c i = c := by
  funext j
  unfold zk_rw
  by_cases e : b ≤ j ∧ j < b + i
  · rw [if_pos e, h (j - b) (by omega)]
    exact congrArg c (by omega)
  · rw [if_neg e]
theorem zk_rw_up {b : Nat} {F c : Nat → Int32} {i k : Nat} {v : Int32} (hk : k = b + i) (hv : v = F i) : upd (zk_rw b F c i) k v = zk_rw b F c (i + 1) := by
  subst hk hv
  funext j
  unfold upd zk_rw
  by_cases e : j = b + i
  · subst e
    rw [if_pos rfl, if_pos ⟨by omega, by omega⟩, Nat.add_sub_cancel_left]
  · rw [if_neg e]
    by_cases h : b ≤ j ∧ j < b + i
    · rw [if_pos h, if_pos ⟨h.1, by omega⟩]
    · rw [if_neg h, if_neg (by omega)]
theorem zk_rw_st {b : Nat} {F c : Nat → Int32} {i : Nat} (h : F i = c (b + i)) : zk_rw b F c i = zk_rw b F c (i + 1) := by
  funext j
  unfold zk_rw
  by_cases e : j = b + i
  · subst e
    rw [if_neg (by omega), if_pos ⟨by omega, by omega⟩, Nat.add_sub_cancel_left, h]
  · by_cases h : b ≤ j ∧ j < b + i
    · rw [if_pos h, if_pos ⟨h.1, by omega⟩]
    · rw [if_neg h, if_neg (by omega)]
theorem zk_rw_cm {b : Nat} {F c : Nat → Int32} {i k : Nat} {v : Int32} (h : k < b ∨ b + i ≤ k) : upd (zk_rw b F c i) k v = zk_rw b F (upd c k v) i := by
  funext j
  by_cases e : j = k
  · subst e
    rw [pk_us, zk_rw_out h, pk_us]
  · rw [pk_un e]
    unfold zk_rw
    rw [pk_un e]
end ZKC
section ZKD
/-! one path's plan -/
def zk_RF (h i w t : Int32) : Int32 := if h = t then 0 else if w = i ∧ (i = h ∨ i = t) then 0 else if i = t then 0 else if ¬ i = h then 1 else if i = 0 then 3 else 2
def zk_NI (h i t : Int32) : Int32 := if h = t then i else t
def zk_NW (h i w t : Int32) : Int32 := if h = t then w else if w = i ∧ (i = h ∨ i = t) then t else w
def zk_ni (H I T : Nat → Int32) : Nat → Int32 := fun p => zk_NI (H p) (I p) (T p)
def zk_nw (H I W T : Nat → Int32) : Nat → Int32 := fun p => zk_NW (H p) (I p) (W p) (T p)
def zk_gr (H I W T : Nat → Int32) (p : Nat) : Bool := !decide (zk_RF (H p) (I p) (W p) (T p) = 0)
def zk_gh (n : Nat) (A B : Nat → Int32) (p : Nat) : Bool := (!decide (A p = 0) && zk_fb n A p) || (!decide (B p = 0) && zk_fb n B p)
def zk_m (n : Nat) (H I W T : Nat → Int32) : Nat := zk_fst (zk_gr H I W T) n 0
def zk_h (n : Nat) (A B : Nat → Int32) : Nat := zk_fst (zk_gh n A B) n 0
def zk_pa (n : Nat) (H I W T : Nat → Int32) : Int32 :=
  if zk_m n H I W T < n then zk_RF (H (zk_m n H I W T)) (I (zk_m n H I W T)) (W (zk_m n H I W T)) (T (zk_m n H I W T))
  else if zk_h n (zk_ni H I T) (zk_nw H I W T) < n then 4 else 0
def zk_pr (n : Nat) (H I W T : Nat → Int32) : Int32 :=
  if zk_m n H I W T < n then nI (zk_m n H I W T)
  else if zk_h n (zk_ni H I T) (zk_nw H I W T) < n then nI (zk_h n (zk_ni H I T) (zk_nw H I W T)) else -1
/-! the forced plan -/
def zk_fw (n : Nat) (H I W T : Nat → Int32) : Nat → Int32 := fun p =>
  if ¬ H p = 0 ∨ ¬ I p = 0 ∨ ¬ T p = 0 then T p else if zk_fa n T p = true ∨ zk_fb n T p = true then 0 else W p
theorem zk_gr_c {n : Nat} {H I W T H' I' W' T' : Nat → Int32} (hH : ∀ q, q < n → H q = H' q) (hI : ∀ q, q < n → I q = I' q) (hW : ∀ q, q < n → W q = W' q) (hT : ∀ q, q < n → T q = T' q) : zk_m n H I W T = zk_m n H' I' W' T' := by
  apply zk_fst_c
  intro q _ b
  unfold zk_gr
  rw [hH q (by omega), hI q (by omega), hW q (by omega), hT q (by omega)]
theorem zk_h_c {n : Nat} {A B A' B' : Nat → Int32} (hA : ∀ q, q < n → A q = A' q) (hB : ∀ q, q < n → B q = B' q) : zk_h n A B = zk_h n A' B' := by
  apply zk_fst_c
  intro q _ b
  unfold zk_gh
  rw [hA q (by omega), hB q (by omega), zk_fb_c hA, zk_fb_c hB]
theorem zk_ni_c {n : Nat} {H I T H' I' T' : Nat → Int32} (hH : ∀ q, q < n → H q = H' q) (hI : ∀ q, q < n → I q = I' q) (hT : ∀ q, q < n → T q = T' q) : ∀ q, q < n → zk_ni H I T q = zk_ni H' I' T' q := by
  intro q b
  unfold zk_ni
  rw [hH q b, hI q b, hT q b]
theorem zk_nw_c {n : Nat} {H I W T H' I' W' T' : Nat → Int32} (hH : ∀ q, q < n → H q = H' q) (hI : ∀ q, q < n → I q = I' q) (hW : ∀ q, q < n → W q = W' q) (hT : ∀ q, q < n → T q = T' q) : ∀ q, q < n → zk_nw H I W T q = zk_nw H' I' W' T' q := by
  intro q b
  unfold zk_nw
  rw [hH q b, hI q b, hW q b, hT q b]
theorem zk_fw_c {n : Nat} {H I W T H' I' W' T' : Nat → Int32} (hH : ∀ q, q < n → H q = H' q) (hI : ∀ q, q < n → I q = I' q) (hW : ∀ q, q < n → W q = W' q) (hT : ∀ q, q < n → T q = T' q) : ∀ q, q < n → zk_fw n H I W T q = zk_fw n H' I' W' T' q := by
  intro q b
  unfold zk_fw
  rw [hH q b, hI q b, hW q b, hT q b, zk_fa_c hT, zk_fb_c hT]
theorem zk_pa_c {n : Nat} {H I W T H' I' W' T' : Nat → Int32} (hH : ∀ q, q < n → H q = H' q) (hI : ∀ q, q < n → I q = I' q) (hW : ∀ q, q < n → W q = W' q) (hT : ∀ q, q < n → T q = T' q) : zk_pa n H I W T = zk_pa n H' I' W' T' := by
  unfold zk_pa
  rw [zk_gr_c hH hI hW hT, zk_h_c (zk_ni_c hH hI hT) (zk_nw_c hH hI hW hT)]
  by_cases e : zk_m n H' I' W' T' < n
  · rw [if_pos e, if_pos e, hH _ e, hI _ e, hW _ e, hT _ e]
  · rw [if_neg e, if_neg e]
theorem zk_pr_c {n : Nat} {H I W T H' I' W' T' : Nat → Int32} (hH : ∀ q, q < n → H q = H' q) (hI : ∀ q, q < n → I q = I' q) (hW : ∀ q, q < n → W q = W' q) (hT : ∀ q, q < n → T q = T' q) : zk_pr n H I W T = zk_pr n H' I' W' T' := by
  unfold zk_pr
  rw [zk_gr_c hH hI hW hT, zk_h_c (zk_ni_c hH hI hT) (zk_nw_c hH hI hW hT)]
/-! delete, stage, write: what they make of a tree -/
def zk_dF (p : Nat) (f : Nat → Int32) : Nat → Int32 := fun q => if q = p ∨ zk_an p q = true then 0 else f q
def zk_dg (p : Nat) (f : Nat → Int32) (q : Nat) : Bool := if q = p ∨ zk_an p q = true then !decide (f q = 0) else false
def zk_cF (p : Nat) (f : Nat → Int32) : Nat → Int32 := fun q => if zk_an q p = true ∨ zk_an p q = true then 0 else f q
def zk_ne (f g : Nat → Int32) (q : Nat) : Bool := !decide (f q = g q)
def zk_nz (f : Nat → Int32) (q : Nat) : Bool := !decide (f q = 0)
def zk_wo (n : Nat) (f : Nat → Int32) (p : Nat) (y : Int32) : Bool := if y < 1 then false else if y ≤ 1000 then (!zk_fa n f p && !zk_fb n f p) else false
def zk_to (n : Nat) (f : Nat → Int32) (p : Nat) (y : Int32) : Bool := if y < 0 then false else if y ≤ 1000 then (if y = 0 then true else !zk_fa n f p && !zk_fb n f p) else false
theorem zk_wo_c {n p : Nat} {f g : Nat → Int32} {y : Int32} (h : ∀ q, q < n → f q = g q) : zk_wo n f p y = zk_wo n g p y := by
  unfold zk_wo
  rw [zk_fa_c h, zk_fb_c h]
theorem zk_to_c {n p : Nat} {f g : Nat → Int32} {y : Int32} (h : ∀ q, q < n → f q = g q) : zk_to n f p y = zk_to n g p y := by
  unfold zk_to
  rw [zk_fa_c h, zk_fb_c h]
theorem zk_nd {x y : Int32} (h : ¬ x = y) : (!decide (x = y)) = true := by
  rw [decide_eq_false h]
  rfl
theorem zk_nd0 {x y : Int32} (h : x = y) : (!decide (x = y)) = false := by
  rw [decide_eq_true h]
  rfl
theorem zk_dg_t {p q : Nat} {f : Nat → Int32} (hm : q = p ∨ zk_an p q = true) (h : ¬ f q = 0) : zk_dg p f q = true := by
  unfold zk_dg
  rw [if_pos hm]
  exact zk_nd h
theorem zk_dg_0 {p q : Nat} {f : Nat → Int32} (h : f q = 0) : zk_dg p f q = false := by
  unfold zk_dg
  split
  · exact zk_nd0 h
  · rfl
theorem zk_dg_n {p q : Nat} {f : Nat → Int32} (hm : ¬ (q = p ∨ zk_an p q = true)) : zk_dg p f q = false := by
  unfold zk_dg
  rw [if_neg hm]
theorem zk_dF_t {p q : Nat} {f : Nat → Int32} (hm : q = p ∨ zk_an p q = true) : zk_dF p f q = 0 := by
  unfold zk_dF
  rw [if_pos hm]
theorem zk_dF_0 {p q : Nat} {f : Nat → Int32} (h : f q = 0) : zk_dF p f q = f q := by
  unfold zk_dF
  split
  · exact h.symm
  · rfl
theorem zk_dF_n {p q : Nat} {f : Nat → Int32} (hm : ¬ (q = p ∨ zk_an p q = true)) : zk_dF p f q = f q := by
  unfold zk_dF
  rw [if_neg hm]
theorem zk_nan {p q : Nat} (hp : p < 24) (h : q < p) : ¬ (q = p ∨ zk_an p q = true) := by
  rintro (e | e)
  · omega
  · have := zk_anlt p hp q (by omega) e
    omega
end ZKD
section ZKE
/-! the one store of six trees: a copied tree, the two planning trees -/
def zk_cp (n s t : Nat) (c : Nat → Int32) : Nat → Int32 := zk_rw (t * 24) (fun q => c (s * 24 + q)) c n
def zk_ap (n : Nat) (c : Nat → Int32) : Nat → Int32 := zk_cp n 5 2 (zk_cp n 4 1 (zk_cp n 3 0 c))
def zk_pl (A B c : Nat → Int32) (i : Nat) : Nat → Int32 := zk_rw (5 * 24) B (zk_rw (4 * 24) A c i) i
theorem zk_pl_0 {A B c : Nat → Int32} : zk_pl A B c 0 = c := by
  unfold zk_pl
  rw [zk_rw_0, zk_rw_0]
theorem zk_pl_lo {A B c : Nat → Int32} {i j : Nat} (h : j < 4 * 24) : zk_pl A B c i j = c j := by
  unfold zk_pl
  rw [zk_rw_out (by omega), zk_rw_out (by omega)]
theorem zk_pl_k {A B c : Nat → Int32} {i q : Nat} (k : Nat) (hk : k < 4) (h : q < 24) : zk_pl A B c i (k * 24 + q) = c (k * 24 + q) := zk_pl_lo (by omega)
theorem zk_pl_4 {A B c : Nat → Int32} {i q : Nat} (h : q < i) (hi : i ≤ 24) : zk_pl A B c i (4 * 24 + q) = A q := by
  unfold zk_pl
  rw [zk_rw_out (by omega), zk_rw_in h]
theorem zk_pl_5 {A B c : Nat → Int32} {i q : Nat} (h : q < i) : zk_pl A B c i (5 * 24 + q) = B q := by
  unfold zk_pl
  rw [zk_rw_in h]
theorem zk_pl_up {A B c : Nat → Int32} {i : Nat} {a b : Int32} (hi : i < 24) (ha : a = A i) (hb : b = B i) : upd (upd (zk_pl A B c i) (4 * 24 + i) a) (5 * 24 + i) b = zk_pl A B c (i + 1) := by
  unfold zk_pl
  rw [zk_rw_cm (by omega), zk_rw_up rfl ha, zk_rw_up rfl hb]
theorem zk_cp_t {n s t q : Nat} {c : Nat → Int32} (h : q < n) : zk_cp n s t c (t * 24 + q) = c (s * 24 + q) := by
  unfold zk_cp
  rw [zk_rw_in h]
theorem zk_cp_o {n s t k q : Nat} {c : Nat → Int32} (hn : n ≤ 24) (h : q < 24) (hk : k ≠ t) : zk_cp n s t c (k * 24 + q) = c (k * 24 + q) := by
  unfold zk_cp
  rw [zk_rw_out (by omega)]
theorem zk_ap_0 {n q : Nat} {c : Nat → Int32} (h : q < n) (hn : n ≤ 24) : zk_ap n c (0 * 24 + q) = c (3 * 24 + q) := by
  unfold zk_ap
  rw [zk_cp_o hn (by omega) (by omega), zk_cp_o hn (by omega) (by omega), zk_cp_t h]
theorem zk_ap_1 {n q : Nat} {c : Nat → Int32} (h : q < n) (hn : n ≤ 24) : zk_ap n c (1 * 24 + q) = c (4 * 24 + q) := by
  unfold zk_ap
  rw [zk_cp_o hn (by omega) (by omega), zk_cp_t h, zk_cp_o hn (by omega) (by omega)]
theorem zk_ap_2 {n q : Nat} {c : Nat → Int32} (h : q < n) (hn : n ≤ 24) : zk_ap n c (2 * 24 + q) = c (5 * 24 + q) := by
  unfold zk_ap
  rw [zk_cp_t h, zk_cp_o hn (by omega) (by omega), zk_cp_o hn (by omega) (by omega)]
theorem zk_ap_3 {n q : Nat} {c : Nat → Int32} (h : q < n) (hn : n ≤ 24) : zk_ap n c (3 * 24 + q) = c (3 * 24 + q) := by
  unfold zk_ap
  rw [zk_cp_o hn (by omega) (by omega), zk_cp_o hn (by omega) (by omega), zk_cp_o hn (by omega) (by omega)]
end ZKE
end
section
section ZXA
/-! the class's small methods -/
theorem zx_ix (t p : Nat) : nI t * 24 + nI p = nI (t * 24 + p) := by
  rw [show (24 : Int32) = nI 24 from rfl, pk_mul, nI_add]
theorem zx_get {post : Int32 → Prop} {N l v : Int32} {c : Nat → Int32} (t p : Nat) (ht : t < 6) (hp : p < 24) (e : c (t * 24 + p) = v) (h : post v) : wpX_get post (N, l, c) (nI t) (nI p) := by
  unfold wpX_get
  dsimp only
  rw [zx_ix, nI_clamp (by omega), e]
  exact ⟨vp_in_nI (by omega) (by omega), h⟩
theorem zx_put {post : SX → Prop} {N l v : Int32} {c : Nat → Int32} (t p : Nat) (ht : t < 6) (hp : p < 24) (h : post (N, l, upd c (t * 24 + p) v)) : wpX_put post (N, l, c) (nI t) (nI p) v := by
  unfold wpX_put
  dsimp only
  rw [zx_ix, nI_clamp (by omega)]
  exact ⟨vp_in_nI (by omega) (by omega), nm_e h⟩
theorem zx_ip1 {post : Int32 → Prop} {l : Int32} {c : Nat → Int32} {n p : Nat} (hp : p < n) (hn : n ≤ 24) (h : post 1) : wpX_isPath post (nI n, l, c) (nI p) := by
  unfold wpX_isPath
  dsimp only
  exact br_f (nI_pos (by omega)) (br_f (nI_ge hp (by omega)) h)
theorem zx_ip0 {post : Int32 → Prop} {l : Int32} {c : Nat → Int32} {n : Nat} {x : Int32} (hx : x < 0 ∨ nI n ≤ x) (h : post 0) : wpX_isPath post (nI n, l, c) x := by
  unfold wpX_isPath
  dsimp only
  by_cases e : x < 0
  · exact br_t e h
  · exact br_f e (br_t (hx.resolve_left e) h)
theorem zx_it1 {post : Int32 → Prop} {t : Nat} (ht : t < 4) (h : post 1) : wpX_isTree post (nI t) := by
  unfold wpX_isTree
  exact br_f (nI_pos (by omega)) (br_f (nI_nlt (a := 3) (b := t) (by omega) (by decide)) h)
theorem zx_it0 {post : Int32 → Prop} {x : Int32} (hx : x < 0 ∨ 3 < x) (h : post 0) : wpX_isTree post x := by
  unfold wpX_isTree
  by_cases e : x < 0
  · exact br_t e h
  · exact br_f e (br_t (hx.resolve_left e) h)
theorem zx_q4 {x : Nat} (h : 4 ≤ x) (hx : x < 24) : nI x / 4 - 1 = nI (x / 4 - 1) := by
  rw [show (4 : Int32) = nI 4 from rfl, pk_div (by omega) (by omega) (by omega), show (1 : Int32) = nI 1 from rfl, pk_sub (by omega)]
theorem zx_ab4 {post : Int32 → Prop} {a : Nat} (ha : a < 24) : ∀ d s x, s + d = 24 → x < 24 → post (zk_b (zk_up a d x)) → wX_isAbove_4 post (nI a) (d + 1) (nI x) (nI s) := by
  intro d
  induction d with
  | zero =>
    intro s x hs hx h
    exact br_t (nI_le (a := 24) (b := s) (by omega) (by omega)) h
  | succ d ih =>
    intro s x hs hx h
    refine br_f (nI_ge (b := 24) (a := s) (by omega) (by decide)) ?_
    by_cases h4 : x < 4
    · rw [zk_up, if_pos h4] at h
      exact br_t (nI_lt (b := 4) h4 (by decide)) h
    · rw [zk_up, if_neg h4] at h
      refine br_f (nI_nlt (a := x) (b := 4) (by omega) (by omega)) ⟨by decide, nm_r (zx_q4 (by omega) hx) (pk_eq (x / 4 - 1) a (fun e => ?_) (fun e => nm_r (nI_1 s) (ih (s + 1) (x / 4 - 1) (by omega) (by omega) ?_)))⟩
      · rw [if_pos e] at h
        exact h
      · rw [if_neg e] at h
        exact h
theorem zx_ab {post : Int32 → Prop} (a p : Nat) (ha : a < 24) (hp : p < 24) (h : post (zk_b (zk_an a p))) : wpX_isAbove post (nI a) (nI p) := by
  unfold wpX_isAbove
  refine ⟨25, zx_ab4 ha 24 0 p rfl hp ?_⟩
  rw [zk_an24 a ha p hp]
  exact h
theorem zx_fa2 {post : Int32 → Prop} {N l : Int32} {c : Nat → Int32} (t p : Nat) (ht : t < 6) (hp : p < 24) : ∀ d i, i + d = p → post (zk_b (zk_any (zk_ga (fun q => c (t * 24 + q)) p) d i)) → wX_hasFileAbove_2 post (nI t) (nI p) N l c (d + 1) (nI i) := by
  intro d
  induction d with
  | zero =>
    intro i hi h
    exact br_t (nI_le (a := p) (b := i) (by omega) (by omega)) h
  | succ d ih =>
    intro i hi h
    refine br_f (nI_ge (a := i) (b := p) (by omega) (by omega)) (zx_get t i ht (by omega) rfl ?_)
    by_cases z : c (t * 24 + i) = 0
    · rw [zk_any, zk_ga0 (f := fun q => c (t * 24 + q)) z, Bool.false_or] at h
      exact br_t z (nm_r (nI_1 i) (ih (i + 1) (by omega) h))
    · rw [zk_any, zk_ga1 (f := fun q => c (t * 24 + q)) z] at h
      refine br_f z (zx_ab i p (by omega) hp ?_)
      cases e : zk_an i p with
      | false =>
        rw [e, Bool.false_or] at h
        exact br_t rfl (nm_r (nI_1 i) (ih (i + 1) (by omega) h))
      | true =>
        rw [e, Bool.true_or] at h
        exact br_f (by decide) h
theorem zx_fa {post : Int32 → Prop} {l : Int32} {n : Nat} {c : Nat → Int32} (t p : Nat) (ht : t < 6) (hp : p < n) (hn : n ≤ 24) (h : post (zk_b (zk_fa n (fun q => c (t * 24 + q)) p))) : wpX_hasFileAbove post (nI n, l, c) (nI t) (nI p) := by
  unfold wpX_hasFileAbove
  dsimp only
  refine ⟨p + 1, zx_fa2 t p ht (by omega) p 0 (by omega) ?_⟩
  rw [zk_fa_x hp hn]
  exact h
theorem zx_fb4 {post : Int32 → Prop} {l : Int32} {n : Nat} {c : Nat → Int32} (t p : Nat) (ht : t < 6) (hp : p < 24) (hn : n ≤ 24) : ∀ d i, i + d = n → post (zk_b (zk_any (zk_gb (fun q => c (t * 24 + q)) p) d i)) → wX_hasFileBelow_4 post (nI t) (nI p) (nI n) l c (d + 1) (nI i) := by
  intro d
  induction d with
  | zero =>
    intro i hi h
    exact br_t (nI_le (a := n) (b := i) (by omega) (by omega)) h
  | succ d ih =>
    intro i hi h
    refine br_f (nI_ge (a := i) (b := n) (by omega) (by omega)) (zx_get t i ht (by omega) rfl ?_)
    by_cases z : c (t * 24 + i) = 0
    · rw [zk_any, zk_gb0 (f := fun q => c (t * 24 + q)) z, Bool.false_or] at h
      exact br_t z (nm_r (nI_1 i) (ih (i + 1) (by omega) h))
    · rw [zk_any, zk_gb1 (f := fun q => c (t * 24 + q)) z] at h
      refine br_f z (zx_ab p i hp (by omega) ?_)
      cases e : zk_an p i with
      | false =>
        rw [e, Bool.false_or] at h
        exact br_t rfl (nm_r (nI_1 i) (ih (i + 1) (by omega) h))
      | true =>
        rw [e, Bool.true_or] at h
        exact br_f (by decide) h
theorem zx_fb {post : Int32 → Prop} {l : Int32} {n : Nat} {c : Nat → Int32} (t p : Nat) (ht : t < 6) (hp : p < n) (hn : n ≤ 24) (h : post (zk_b (zk_fb n (fun q => c (t * 24 + q)) p))) : wpX_hasFileBelow post (nI n, l, c) (nI t) (nI p) := by
  unfold wpX_hasFileBelow
  dsimp only
  refine nm_r (nI_1 p) ⟨n - (p + 1) + 1, zx_fb4 t p ht (by omega) hn (n - (p + 1)) (p + 1) (by omega) ?_⟩
  rw [zk_fb_x hp hn]
  exact h
end ZXA
section ZXB
/-! write, setTarget, delete -/
theorem zx_write {post : Int32 → SX → Prop} {l y : Int32} {n p : Nat} {c : Nat → Int32} (hp : p < n) (hn : n ≤ 24) (h : post (zk_b (zk_wo n (fun q => c (2 * 24 + q)) p y)) (nI n, l, cond (zk_wo n (fun q => c (2 * 24 + q)) p y) (upd c (2 * 24 + p) y) c)) : wpX_write post (nI n, l, c) (nI p) y := by
  unfold wpX_write
  dsimp only
  refine zx_ip1 hp hn (br_f (by decide) ?_)
  unfold zk_wo at h
  by_cases h1 : y < 1
  · rw [if_pos h1] at h
    exact br_t h1 h
  · rw [if_neg h1] at h
    refine br_f h1 ?_
    by_cases h2 : y ≤ 1000
    · rw [if_pos h2] at h
      refine br_t h2 (zx_fa 2 p (by omega) hp hn ?_)
      cases ea : zk_fa n (fun q => c (2 * 24 + q)) p with
      | true =>
        rw [ea] at h
        exact br_f (by decide) h
      | false =>
        refine br_t rfl (zx_fb 2 p (by omega) hp hn ?_)
        cases eb : zk_fb n (fun q => c (2 * 24 + q)) p with
        | true =>
          rw [ea, eb] at h
          exact br_f (by decide) h
        | false =>
          rw [ea, eb] at h
          exact br_t rfl (zx_put 2 p (by omega) (by omega) h)
    · rw [if_neg h2] at h
      exact br_f h2 h
theorem zx_write0 {post : Int32 → SX → Prop} {l x y : Int32} {n : Nat} {c : Nat → Int32} (hx : x < 0 ∨ nI n ≤ x) (h : post 0 (nI n, l, c)) : wpX_write post (nI n, l, c) x y := by
  unfold wpX_write
  dsimp only
  exact zx_ip0 hx (br_t rfl h)
theorem zx_setTarget {post : Int32 → SX → Prop} {l y : Int32} {n p : Nat} {c : Nat → Int32} (hp : p < n) (hn : n ≤ 24) (h : post (zk_b (zk_to n (fun q => c (3 * 24 + q)) p y)) (nI n, l, cond (zk_to n (fun q => c (3 * 24 + q)) p y) (upd c (3 * 24 + p) y) c)) : wpX_setTarget post (nI n, l, c) (nI p) y := by
  unfold wpX_setTarget
  dsimp only
  refine zx_ip1 hp hn (br_f (by decide) ?_)
  unfold zk_to at h
  by_cases h1 : y < 0
  · rw [if_pos h1] at h
    exact br_t h1 h
  · rw [if_neg h1] at h
    refine br_f h1 ?_
    by_cases h2 : y ≤ 1000
    · rw [if_pos h2] at h
      refine br_t h2 ?_
      by_cases h3 : y = 0
      · rw [if_pos h3] at h
        refine br_t h3 ?_
        unfold wX_setTarget_45
        exact zx_put 3 p (by omega) (by omega) h
      · rw [if_neg h3] at h
        refine br_f h3 (zx_fa 3 p (by omega) hp hn ?_)
        cases ea : zk_fa n (fun q => c (3 * 24 + q)) p with
        | true =>
          rw [ea] at h
          exact br_f (by decide) h
        | false =>
          refine br_t rfl (zx_fb 3 p (by omega) hp hn ?_)
          cases eb : zk_fb n (fun q => c (3 * 24 + q)) p with
          | true =>
            rw [ea, eb] at h
            exact br_f (by decide) h
          | false =>
            rw [ea, eb] at h
            refine br_t rfl ?_
            unfold wX_setTarget_45
            exact zx_put 3 p (by omega) (by omega) h
    · rw [if_neg h2] at h
      exact br_f h2 h
theorem zx_setTarget0 {post : Int32 → SX → Prop} {l x y : Int32} {n : Nat} {c : Nat → Int32} (hx : x < 0 ∨ nI n ≤ x) (h : post 0 (nI n, l, c)) : wpX_setTarget post (nI n, l, c) x y := by
  unfold wpX_setTarget
  dsimp only
  exact zx_ip0 hx (br_t rfl h)
theorem zx_del35 {post : Int32 → SX → Prop} {J : Int32 → Int32 → Int32 → Int32 → (Nat → Int32) → Prop} {N l : Int32} {c : Nat → Int32} {p i r : Nat} (hi : i < 24) (hm : i = p ∨ zk_an p i = true)
    (h0 : c (2 * 24 + i) = 0 → J (nI r) (nI (i + 1)) N l (zk_rw (2 * 24) (zk_dF p (fun q => c (2 * 24 + q))) c (i + 1)))
    (h1 : ¬ c (2 * 24 + i) = 0 → J (nI (r + 1)) (nI (i + 1)) N l (zk_rw (2 * 24) (zk_dF p (fun q => c (2 * 24 + q))) c (i + 1))) :
    wX_delete_35 post J (nI p) (nI r) (nI i) N l (zk_rw (2 * 24) (zk_dF p (fun q => c (2 * 24 + q))) c i) := by
  unfold wX_delete_35
  refine zx_get 2 i (by omega) hi (zk_rw_out (by omega)) ?_
  by_cases z : c (2 * 24 + i) = 0
  · refine br_t z (nm_r (nI_1 i) ?_)
    rw [zk_rw_st (zk_dF_0 (f := fun q => c (2 * 24 + q)) z)]
    exact h0 z
  · refine br_f z (zx_put 2 i (by omega) hi ?_)
    rw [zk_rw_up rfl (zk_dF_t hm).symm]
    exact nm_r (nI_1 r) (nm_r (nI_1 i) (h1 z))
theorem zx_del14 {post : Int32 → SX → Prop} {l : Int32} {n p : Nat} {c : Nat → Int32} (hp : p < 24) (hn : n ≤ 24) : ∀ d i r, p ≤ i → i + d = n → post (nI (r + zk_cn (zk_dg p (fun q => c (2 * 24 + q))) d i)) (nI n, l, zk_rw (2 * 24) (zk_dF p (fun q => c (2 * 24 + q))) c n) → wX_delete_14 post (nI p) (d + 1) (nI r) (nI i) (nI n) l (zk_rw (2 * 24) (zk_dF p (fun q => c (2 * 24 + q))) c i) := by
  intro d
  induction d with
  | zero =>
    intro i r _ hi h
    have e : i = n := by omega
    subst e
    exact br_t (nI_le (Nat.le_refl i) (by omega)) h
  | succ d ih =>
    intro i r hpi hi h
    have body : (i = p ∨ zk_an p i = true) → wX_delete_35 post (wX_delete_14 post (nI p) (d + 1)) (nI p) (nI r) (nI i) (nI n) l (zk_rw (2 * 24) (zk_dF p (fun q => c (2 * 24 + q))) c i) := by
      intro hm
      refine zx_del35 (by omega) hm (fun z => ih (i + 1) r (by omega) (by omega) ?_) (fun z => ih (i + 1) (r + 1) (by omega) (by omega) ?_)
      · rw [zk_cn_f (zk_dg_0 (f := fun q => c (2 * 24 + q)) z)] at h
        exact h
      · rw [zk_cn_t (zk_dg_t (f := fun q => c (2 * 24 + q)) hm z), ← Nat.add_assoc] at h
        exact h
    refine br_f (nI_ge (a := i) (b := n) (by omega) (by omega)) (pk_eq i p (fun e => body (Or.inl e)) (fun ne => zx_ab p i hp (by omega) ?_))
    cases e : zk_an p i with
    | false =>
      have hm : ¬ (i = p ∨ zk_an p i = true) := by
        rintro (z | z)
        · exact ne z
        · rw [e] at z
          exact absurd z (by decide)
      refine br_t rfl (nm_r (nI_1 i) ?_)
      rw [zk_rw_st (zk_dF_n (f := fun q => c (2 * 24 + q)) hm)]
      rw [zk_cn_f (zk_dg_n (f := fun q => c (2 * 24 + q)) hm)] at h
      exact ih (i + 1) r (by omega) (by omega) h
    | true => exact br_f (by decide) (body (Or.inr e))
theorem zx_delete {post : Int32 → SX → Prop} {l : Int32} {n p : Nat} {c : Nat → Int32} (hp : p < n) (hn : n ≤ 24) (h : post (nI (zk_cn (zk_dg p (fun q => c (2 * 24 + q))) n 0)) (nI n, l, zk_rw (2 * 24) (zk_dF p (fun q => c (2 * 24 + q))) c n)) : wpX_delete post (nI n, l, c) (nI p) := by
  unfold wpX_delete
  dsimp only
  refine zx_ip1 hp hn (br_f (by decide) ⟨n - p + 1, ?_⟩)
  have e : zk_rw (2 * 24) (zk_dF p (fun q => c (2 * 24 + q))) c p = c := zk_rw_id (fun q hq => zk_dF_n (f := fun q => c (2 * 24 + q)) (zk_nan (by omega) hq))
  have k := zx_del14 (post := post) (l := l) (n := n) (p := p) (c := c) (by omega) hn (n - p) p 0 (Nat.le_refl p) (by omega) (by
    have s := zk_cn_skip (g := zk_dg p (fun q => c (2 * 24 + q))) p (n - p) 0 (fun q _ hq => zk_dg_n (zk_nan (by omega) (by omega)))
    rw [show n - p + p = n from by omega, Nat.zero_add] at s
    rw [Nat.zero_add, ← s]
    exact h)
  rw [e] at k
  exact k
theorem zx_delete0 {post : Int32 → SX → Prop} {l x : Int32} {n : Nat} {c : Nat → Int32} (hx : x < 0 ∨ nI n ≤ x) (h : post (-1) (nI n, l, c)) : wpX_delete post (nI n, l, c) x := by
  unfold wpX_delete
  dsimp only
  exact zx_ip0 hx (br_t rfl h)
end ZXB
end
section
section ZXC
/-! stage, copyTree, commit, targetFromHead -/
theorem zk_cF_t {p q : Nat} {f : Nat → Int32} (hm : zk_an q p = true ∨ zk_an p q = true) : zk_cF p f q = 0 := by
  unfold zk_cF
  rw [if_pos hm]
theorem zk_cF_n {p q : Nat} {f : Nat → Int32} (hm : ¬ (zk_an q p = true ∨ zk_an p q = true)) : zk_cF p f q = f q := by
  unfold zk_cF
  rw [if_neg hm]
theorem zx_cl26 {post : SX → Prop} {J : Int32 → Int32 → Int32 → (Nat → Int32) → Prop} {N l : Int32} {c : Nat → Int32} (t : Nat) {p i : Nat} (ht : t < 6) (hi : i < 24) (hm : zk_an i p = true ∨ zk_an p i = true)
    (h : J (nI (i + 1)) N l (zk_rw (t * 24) (zk_cF p (fun q => c (t * 24 + q))) c (i + 1))) :
    wX_clearRelatives_26 post J (nI t) (nI p) (nI i) N l (zk_rw (t * 24) (zk_cF p (fun q => c (t * 24 + q))) c i) := by
  unfold wX_clearRelatives_26
  refine zx_put t i ht hi ?_
  rw [zk_rw_up rfl (zk_cF_t hm).symm]
  exact nm_r (nI_1 i) h
theorem zx_cl2 {post : SX → Prop} {l : Int32} {n : Nat} {c : Nat → Int32} (t p : Nat) (ht : t < 6) (hp : p < 24) (hn : n ≤ 24) : ∀ d i, i + d = n → post (nI n, l, zk_rw (t * 24) (zk_cF p (fun q => c (t * 24 + q))) c n) → wX_clearRelatives_2 post (nI t) (nI p) (d + 1) (nI i) (nI n) l (zk_rw (t * 24) (zk_cF p (fun q => c (t * 24 + q))) c i) := by
  intro d
  induction d with
  | zero =>
    intro i hi h
    have e : i = n := by omega
    subst e
    exact br_t (nI_le (Nat.le_refl i) (by omega)) h
  | succ d ih =>
    intro i hi h
    refine br_f (nI_ge (a := i) (b := n) (by omega) (by omega)) (zx_ab i p (by omega) hp ?_)
    cases e : zk_an i p with
    | true => exact br_f (by decide) (zx_cl26 t ht (by omega) (Or.inl e) (ih (i + 1) (by omega) h))
    | false =>
      refine br_t rfl (zx_ab p i hp (by omega) ?_)
      cases e2 : zk_an p i with
      | true => exact br_f (by decide) (zx_cl26 t ht (by omega) (Or.inr e2) (ih (i + 1) (by omega) h))
      | false =>
        have hm : ¬ (zk_an i p = true ∨ zk_an p i = true) := by
          rw [e, e2]
          decide
        refine br_t rfl (nm_r (nI_1 i) ?_)
        rw [zk_rw_st (zk_cF_n (f := fun q => c (t * 24 + q)) hm)]
        exact ih (i + 1) (by omega) h
theorem zx_clear {post : SX → Prop} {l : Int32} {n : Nat} {c : Nat → Int32} (t p : Nat) (ht : t < 6) (hp : p < 24) (hn : n ≤ 24) (h : post (nI n, l, zk_rw (t * 24) (zk_cF p (fun q => c (t * 24 + q))) c n)) : wpX_clearRelatives post (nI n, l, c) (nI t) (nI p) := by
  unfold wpX_clearRelatives
  dsimp only
  have k := zx_cl2 (post := post) (l := l) (n := n) (c := c) t p ht hp hn n 0 (by omega) h
  rw [zk_rw_0] at k
  exact ⟨n + 1, k⟩
def zk_sx (n : Nat) (c : Nat → Int32) (p : Nat) : Nat → Int32 :=
  if c (2 * 24 + p) = 0 then upd c (1 * 24 + p) (c (2 * 24 + p))
  else zk_rw (1 * 24) (zk_cF p (fun q => upd c (1 * 24 + p) (c (2 * 24 + p)) (1 * 24 + q))) (upd c (1 * 24 + p) (c (2 * 24 + p))) n
theorem zx_stage {post : Int32 → SX → Prop} {l : Int32} {n p : Nat} {c : Nat → Int32} (hp : p < n) (hn : n ≤ 24) (h : post 1 (nI n, l, zk_sx n c p)) : wpX_stage post (nI n, l, c) (nI p) := by
  unfold wpX_stage
  dsimp only
  refine zx_ip1 hp hn (br_f (by decide) (zx_get 2 p (by omega) (by omega) rfl (zx_put 1 p (by omega) (by omega) ?_)))
  unfold zk_sx at h
  by_cases z : c (2 * 24 + p) = 0
  · rw [if_pos z] at h
    exact br_t z h
  · rw [if_neg z] at h
    exact br_f z (zx_clear 1 p (by omega) (by omega) hn h)
theorem zx_stage0 {post : Int32 → SX → Prop} {l x : Int32} {n : Nat} {c : Nat → Int32} (hx : x < 0 ∨ nI n ≤ x) (h : post 0 (nI n, l, c)) : wpX_stage post (nI n, l, c) x := by
  unfold wpX_stage
  dsimp only
  exact zx_ip0 hx (br_t rfl h)
theorem zx_cp5 {post : Int32 → SX → Prop} {l : Int32} {n : Nat} {c : Nat → Int32} (s t : Nat) (hs : s < 6) (ht : t < 6) (st : s ≠ t) (hn : n ≤ 24) : ∀ d i r, i + d = n → post (nI (r + zk_cn (zk_ne (fun q => c (t * 24 + q)) (fun q => c (s * 24 + q))) d i)) (nI n, l, zk_cp n s t c) → wX_copyTree_5 post (nI s) (nI t) (d + 1) (nI r) (nI i) (nI n) l (zk_rw (t * 24) (fun q => c (s * 24 + q)) c i) := by
  intro d
  induction d with
  | zero =>
    intro i r hi h
    have e : i = n := by omega
    subst e
    exact br_t (nI_le (Nat.le_refl i) (by omega)) h
  | succ d ih =>
    intro i r hi h
    refine br_f (nI_ge (a := i) (b := n) (by omega) (by omega)) (zx_get s i hs (by omega) (zk_rw_out (by omega)) (zx_get t i ht (by omega) (zk_rw_out (by omega)) ?_))
    by_cases z : c (t * 24 + i) = c (s * 24 + i)
    · refine br_t z (nm_r (nI_1 i) ?_)
      rw [zk_rw_st (F := fun q => c (s * 24 + q)) z.symm]
      rw [zk_cn_f (g := zk_ne (fun q => c (t * 24 + q)) (fun q => c (s * 24 + q))) (zk_nd0 z)] at h
      exact ih (i + 1) r (by omega) h
    · refine br_f z (zx_put t i ht (by omega) ?_)
      rw [zk_rw_up (F := fun q => c (s * 24 + q)) rfl rfl]
      rw [zk_cn_t (g := zk_ne (fun q => c (t * 24 + q)) (fun q => c (s * 24 + q))) (zk_nd z), ← Nat.add_assoc] at h
      exact nm_r (nI_1 r) (nm_r (nI_1 i) (ih (i + 1) (r + 1) (by omega) h))
theorem zx_cp {post : Int32 → SX → Prop} {l : Int32} {n : Nat} {c : Nat → Int32} (s t : Nat) (hs : s < 6) (ht : t < 6) (st : s ≠ t) (hn : n ≤ 24) (h : post (nI (zk_cn (zk_ne (fun q => c (t * 24 + q)) (fun q => c (s * 24 + q))) n 0)) (nI n, l, zk_cp n s t c)) : wpX_copyTree post (nI n, l, c) (nI s) (nI t) := by
  unfold wpX_copyTree
  dsimp only
  have k := zx_cp5 (post := post) (l := l) (n := n) (c := c) s t hs ht st hn n 0 0 (by omega) (by rw [Nat.zero_add]; exact h)
  rw [zk_rw_0] at k
  exact ⟨n + 1, k⟩
theorem zx_commit {post : Int32 → SX → Prop} {l : Int32} {n : Nat} {c : Nat → Int32} (hn : n ≤ 24) (h : post (nI (zk_cn (zk_ne (fun q => c (0 * 24 + q)) (fun q => c (1 * 24 + q))) n 0)) (nI n, l, zk_cp n 1 0 c)) : wpX_commit post (nI n, l, c) := by
  unfold wpX_commit
  dsimp only
  exact zx_cp 1 0 (by omega) (by omega) (by omega) hn h
theorem zx_tfh {post : SX → Prop} {l : Int32} {n : Nat} {c : Nat → Int32} (hn : n ≤ 24) (h : post (nI n, l, zk_cp n 0 3 c)) : wpX_targetFromHead post (nI n, l, c) := by
  unfold wpX_targetFromHead
  dsimp only
  exact zx_cp 0 3 (by omega) (by omega) (by omega) hn h
end ZXC
section ZXD
/-! the plans -/
theorem zx_fw {post : Int32 → Prop} {l : Int32} {n p : Nat} {c : Nat → Int32} (hp : p < n) (hn : n ≤ 24) (h : post (zk_fw n (fun q => c (0 * 24 + q)) (fun q => c (1 * 24 + q)) (fun q => c (2 * 24 + q)) (fun q => c (3 * 24 + q)) p)) : wpX_forcedWork post (nI n, l, c) (nI p) := by
  unfold wpX_forcedWork
  dsimp only
  unfold zk_fw at h
  refine zx_get 3 p (by omega) (by omega) rfl (zx_get 0 p (by omega) (by omega) rfl ?_)
  by_cases z0 : c (0 * 24 + p) = 0
  · refine br_t z0 (zx_get 1 p (by omega) (by omega) rfl ?_)
    by_cases z1 : c (1 * 24 + p) = 0
    · refine br_t z1 ?_
      by_cases z3 : c (3 * 24 + p) = 0
      · rw [if_neg (by rintro (a | a | a) <;> exact a (by assumption))] at h
        refine br_t z3 (zx_fa 3 p (by omega) hp hn ?_)
        cases ea : zk_fa n (fun q => c (3 * 24 + q)) p with
        | true =>
          rw [if_pos (Or.inl ea)] at h
          exact br_f (by decide) h
        | false =>
          refine br_t rfl (zx_fb 3 p (by omega) hp hn ?_)
          cases eb : zk_fb n (fun q => c (3 * 24 + q)) p with
          | true =>
            rw [if_pos (Or.inr eb)] at h
            exact br_f (by decide) h
          | false =>
            rw [if_neg (by rw [ea, eb]; decide)] at h
            exact br_t rfl (zx_get 2 p (by omega) (by omega) rfl h)
      · rw [if_pos (Or.inr (Or.inr z3))] at h
        exact br_f z3 h
    · rw [if_pos (Or.inr (Or.inl z1))] at h
      exact br_f z1 h
  · rw [if_pos (Or.inl z0)] at h
    exact br_f z0 h
theorem zx_pe {post : SX → Prop} {N l a b : Int32} {c : Nat → Int32} (p : Nat) (hp : p < 24) (h : post (N, l, upd (upd c (4 * 24 + p) a) (5 * 24 + p) b)) : wpX_planEntries post (N, l, c) (nI p) a b := by
  unfold wpX_planEntries
  dsimp only
  exact zx_put 4 p (by omega) hp (zx_put 5 p (by omega) hp h)
theorem zx_pf2 {post : Int32 → SX → Prop} {l : Int32} {n : Nat} {c : Nat → Int32} (hn : n ≤ 24) : ∀ d i, i + d = n → post 0 (nI n, -1, zk_pl (fun q => c (3 * 24 + q)) (zk_fw n (fun q => c (0 * 24 + q)) (fun q => c (1 * 24 + q)) (fun q => c (2 * 24 + q)) (fun q => c (3 * 24 + q))) c n) → wX_planForced_2 post (d + 1) (nI i) (nI n) l (zk_pl (fun q => c (3 * 24 + q)) (zk_fw n (fun q => c (0 * 24 + q)) (fun q => c (1 * 24 + q)) (fun q => c (2 * 24 + q)) (fun q => c (3 * 24 + q))) c i) := by
  intro d
  induction d with
  | zero =>
    intro i hi h
    have e : i = n := by omega
    subst e
    exact br_t (nI_le (Nat.le_refl i) (by omega)) h
  | succ d ih =>
    intro i hi h
    refine br_f (nI_ge (a := i) (b := n) (by omega) (by omega)) (zx_get 3 i (by omega) (by omega) (zk_pl_k 3 (by omega) (by omega)) (zx_fw (by omega) hn (zx_pe i (by omega) ?_)))
    rw [zk_pl_up (by omega) rfl (zk_fw_c (fun q hq => zk_pl_k 0 (by omega) (by omega)) (fun q hq => zk_pl_k 1 (by omega) (by omega)) (fun q hq => zk_pl_k 2 (by omega) (by omega)) (fun q hq => zk_pl_k 3 (by omega) (by omega)) i (by omega))]
    exact nm_r (nI_1 i) (ih (i + 1) (by omega) h)
theorem zx_pf {post : Int32 → SX → Prop} {l : Int32} {n : Nat} {c : Nat → Int32} (hn : n ≤ 24) (h : post 0 (nI n, -1, zk_pl (fun q => c (3 * 24 + q)) (zk_fw n (fun q => c (0 * 24 + q)) (fun q => c (1 * 24 + q)) (fun q => c (2 * 24 + q)) (fun q => c (3 * 24 + q))) c n)) : wpX_planForced post (nI n, l, c) := by
  unfold wpX_planForced
  dsimp only
  have k := zx_pf2 (post := post) (l := l) (n := n) (c := c) hn n 0 (by omega) h
  rw [zk_pl_0] at k
  exact ⟨n + 1, k⟩
theorem zx_pp74 {post : Int32 → SX → Prop} {N l h i w t : Int32} {c : Nat → Int32} {p : Nat} (hp : p < 24) (n1 : ¬ h = t) (n2 : ¬ (w = i ∧ (i = h ∨ i = t)))
    (ok : zk_RF h i w t = 0 → post 0 (N, l, upd (upd c (4 * 24 + p) (zk_NI h i t)) (5 * 24 + p) (zk_NW h i w t)))
    (no : ¬ zk_RF h i w t = 0 → post (zk_RF h i w t) (N, l, c)) : wX_planPath_74 post (nI p) h i w t N l c := by
  unfold wX_planPath_74
  unfold zk_RF zk_NI zk_NW at ok
  unfold zk_RF at no
  rw [if_neg n1, if_neg n2] at no
  rw [if_neg n1, if_neg n2, if_neg n1, if_neg n1, if_neg n2] at ok
  by_cases z1 : i = t
  · rw [if_pos z1] at ok
    exact br_t z1 (zx_pe p hp (ok rfl))
  · rw [if_neg z1] at no
    refine br_f z1 ?_
    by_cases z2 : i = h
    · rw [if_neg (fun z => z z2)] at no
      refine br_t z2 ?_
      by_cases z3 : i = 0
      · rw [if_pos z3] at no
        exact br_t z3 (no (by decide))
      · rw [if_neg z3] at no
        exact br_f z3 (no (by decide))
    · rw [if_pos z2] at no
      exact br_f z2 (no (by decide))
theorem zx_pp {post : Int32 → SX → Prop} {N l h i w t : Int32} {c : Nat → Int32} (p : Nat) (hp : p < 24) (eh : c (0 * 24 + p) = h) (ei : c (1 * 24 + p) = i) (ew : c (2 * 24 + p) = w) (et : c (3 * 24 + p) = t)
    (ok : zk_RF h i w t = 0 → post 0 (N, l, upd (upd c (4 * 24 + p) (zk_NI h i t)) (5 * 24 + p) (zk_NW h i w t)))
    (no : ¬ zk_RF h i w t = 0 → post (zk_RF h i w t) (N, l, c)) : wpX_planPath post (N, l, c) (nI p) := by
  unfold wpX_planPath
  dsimp only
  refine zx_get 0 p (by omega) hp eh (zx_get 1 p (by omega) hp ei (zx_get 2 p (by omega) hp ew (zx_get 3 p (by omega) hp et ?_)))
  by_cases n1 : h = t
  · unfold zk_RF zk_NI zk_NW at ok
    rw [if_pos n1, if_pos n1, if_pos n1] at ok
    exact br_t n1 (zx_pe p hp (ok rfl))
  · refine br_f n1 ?_
    by_cases n2 : w = i ∧ (i = h ∨ i = t)
    · unfold zk_RF zk_NI zk_NW at ok
      rw [if_neg n1, if_pos n2, if_neg n1, if_neg n1, if_pos n2] at ok
      refine br_t n2.1 ?_
      have k : wX_planPath_63 post (nI p) t N l c := by
        unfold wX_planPath_63
        exact zx_pe p hp (ok rfl)
      by_cases z : i = h
      · exact br_t z k
      · exact br_f z (br_t (n2.2.resolve_left z) k)
    · have k := zx_pp74 (post := post) (p := p) hp n1 n2 ok no
      by_cases z : w = i
      · refine br_t z (br_f (fun z2 => n2 ⟨z, Or.inl z2⟩) (br_f (fun z2 => n2 ⟨z, Or.inr z2⟩) k))
      · exact br_f z k
theorem zx_h57 {post J : Int32 → Prop} {N l : Int32} {c : Nat → Int32} {i : Nat} {a b : Bool} (ht : (a || b) = true → post (nI i)) (hf : (a || b) = false → J (nI (i + 1))) : wX_firstHidingPath_57 post J (nI i) (zk_b a) (zk_b b) N l c := by
  unfold wX_firstHidingPath_57
  cases a with
  | true => exact br_f (by decide) (ht rfl)
  | false =>
    cases b with
    | true => exact br_t rfl (br_f (by decide) (ht rfl))
    | false => exact br_t rfl (br_t rfl (nm_r (nI_1 i) (hf rfl)))
theorem zx_h33 {post J : Int32 → Prop} {l : Int32} {c : Nat → Int32} {n i : Nat} {a : Bool} (hi : i < n) (hn : n ≤ 24)
    (ht : (a || (!decide (c (5 * 24 + i) = 0) && zk_fb n (fun q => c (5 * 24 + q)) i)) = true → post (nI i))
    (hf : (a || (!decide (c (5 * 24 + i) = 0) && zk_fb n (fun q => c (5 * 24 + q)) i)) = false → J (nI (i + 1))) : wX_firstHidingPath_33 post J (nI i) (zk_b a) (nI n) l c := by
  unfold wX_firstHidingPath_33
  refine zx_get 5 i (by omega) (by omega) rfl ?_
  by_cases z : c (5 * 24 + i) = 0
  · rw [zk_nd0 z, Bool.false_and] at ht hf
    refine br_t z ?_
    unfold wX_firstHidingPath_56
    exact zx_h57 (b := false) ht hf
  · rw [zk_nd z, Bool.true_and] at ht hf
    refine br_f z (zx_fb 5 i (by omega) hi hn ?_)
    cases e : zk_fb n (fun q => c (5 * 24 + q)) i with
    | true =>
      rw [e] at ht hf
      exact br_f (by decide) (zx_h57 (b := true) ht hf)
    | false =>
      rw [e] at ht hf
      refine br_t rfl ?_
      unfold wX_firstHidingPath_56
      exact zx_h57 (b := false) ht hf
theorem zx_h2 {post : Int32 → Prop} {l : Int32} {c : Nat → Int32} {n : Nat} (hn : n ≤ 24) : ∀ d i, i + d = n → (zk_fst (zk_gh n (fun q => c (4 * 24 + q)) (fun q => c (5 * 24 + q))) d i < n → post (nI (zk_fst (zk_gh n (fun q => c (4 * 24 + q)) (fun q => c (5 * 24 + q))) d i))) → (¬ zk_fst (zk_gh n (fun q => c (4 * 24 + q)) (fun q => c (5 * 24 + q))) d i < n → post (-1)) → wX_firstHidingPath_2 post (nI n) l c (d + 1) (nI i) := by
  intro d
  induction d with
  | zero =>
    intro i hi _ h
    exact br_t (nI_le (a := n) (b := i) (by omega) (by omega)) (h (by show ¬ i < n; omega))
  | succ d ih =>
    intro i hi ht hf
    have T : zk_gh n (fun q => c (4 * 24 + q)) (fun q => c (5 * 24 + q)) i = true → post (nI i) := by
      intro e
      rw [zk_fst_t e] at ht
      exact ht (by omega)
    have F : zk_gh n (fun q => c (4 * 24 + q)) (fun q => c (5 * 24 + q)) i = false → wX_firstHidingPath_2 post (nI n) l c (d + 1) (nI (i + 1)) := by
      intro e
      rw [zk_fst_f e] at ht hf
      exact ih (i + 1) (by omega) ht hf
    unfold zk_gh at T F
    refine br_f (nI_ge (a := i) (b := n) (by omega) (by omega)) (zx_get 4 i (by omega) (by omega) rfl ?_)
    by_cases z : c (4 * 24 + i) = 0
    · rw [zk_nd0 z, Bool.false_and] at T F
      refine br_t z ?_
      unfold wX_firstHidingPath_32
      exact zx_h33 (a := false) (by omega) hn T F
    · rw [zk_nd z, Bool.true_and] at T F
      refine br_f z (zx_fb 4 i (by omega) (by omega) hn ?_)
      cases e : zk_fb n (fun q => c (4 * 24 + q)) i with
      | true =>
        rw [e] at T F
        exact br_f (by decide) (zx_h33 (a := true) (by omega) hn T F)
      | false =>
        rw [e] at T F
        refine br_t rfl ?_
        unfold wX_firstHidingPath_32
        exact zx_h33 (a := false) (by omega) hn T F
theorem zx_hid {post : Int32 → Prop} {l : Int32} {c A B : Nat → Int32} {n : Nat} (hn : n ≤ 24) (hA : ∀ q, q < n → c (4 * 24 + q) = A q) (hB : ∀ q, q < n → c (5 * 24 + q) = B q) (ht : zk_h n A B < n → post (nI (zk_h n A B))) (hf : ¬ zk_h n A B < n → post (-1)) : wpX_firstHidingPath post (nI n, l, c) := by
  unfold wpX_firstHidingPath
  dsimp only
  rw [← zk_h_c hA hB] at ht hf
  exact ⟨n + 1, zx_h2 hn n 0 (by omega) ht hf⟩
theorem zx_ps2 {post : Int32 → SX → Prop} {l : Int32} {c H I W T : Nat → Int32} {n : Nat} (hn : n ≤ 24) (eH : ∀ q, q < n → c (0 * 24 + q) = H q) (eI : ∀ q, q < n → c (1 * 24 + q) = I q) (eW : ∀ q, q < n → c (2 * 24 + q) = W q) (eT : ∀ q, q < n → c (3 * 24 + q) = T q) : ∀ d i, i + d = n →
    (∀ m, m = zk_fst (zk_gr H I W T) d i → m < n → post (zk_RF (H m) (I m) (W m) (T m)) (nI n, nI m, zk_pl (zk_ni H I T) (zk_nw H I W T) c m)) →
    (zk_fst (zk_gr H I W T) d i = n → zk_h n (zk_ni H I T) (zk_nw H I W T) < n → post 4 (nI n, nI (zk_h n (zk_ni H I T) (zk_nw H I W T)), zk_pl (zk_ni H I T) (zk_nw H I W T) c n)) →
    (zk_fst (zk_gr H I W T) d i = n → ¬ zk_h n (zk_ni H I T) (zk_nw H I W T) < n → post 0 (nI n, -1, zk_pl (zk_ni H I T) (zk_nw H I W T) c n)) →
    wX_planSafe_2 post (d + 1) (nI i) (nI n) l (zk_pl (zk_ni H I T) (zk_nw H I W T) c i) := by
  intro d
  induction d with
  | zero =>
    intro i hi _ h4 h0
    have e : i = n := by omega
    subst e
    refine br_t (nI_le (Nat.le_refl i) (by omega)) (zx_hid hn (fun q hq => zk_pl_4 hq hn) (fun q hq => zk_pl_5 hq) (fun z => ?_) (fun z => ?_))
    · refine br_f (fun e => ?_) (h4 rfl z)
      have p := nI_pos (n := zk_h i (zk_ni H I T) (zk_nw H I W T)) (by omega)
      rw [e] at p
      exact p (by decide)
    · exact br_t rfl (h0 rfl z)
  | succ d ih =>
    intro i hi hr h4 h0
    refine br_f (nI_ge (a := i) (b := n) (by omega) (by omega)) (zx_pp i (by omega) ((zk_pl_k 0 (by omega) (by omega)).trans (eH i (by omega))) ((zk_pl_k 1 (by omega) (by omega)).trans (eI i (by omega))) ((zk_pl_k 2 (by omega) (by omega)).trans (eW i (by omega))) ((zk_pl_k 3 (by omega) (by omega)).trans (eT i (by omega))) (fun z => ?_) (fun z => ?_))
    · have g : zk_gr H I W T i = false := zk_nd0 z
      rw [zk_fst_f g] at hr h4 h0
      refine br_t rfl (nm_r (nI_1 i) ?_)
      rw [zk_pl_up (A := zk_ni H I T) (B := zk_nw H I W T) (a := zk_NI (H i) (I i) (T i)) (b := zk_NW (H i) (I i) (W i) (T i)) (by omega) rfl rfl]
      exact ih (i + 1) (by omega) hr h4 h0
    · have g : zk_gr H I W T i = true := zk_nd z
      rw [zk_fst_t g] at hr
      exact br_f z (hr i rfl (by omega))
theorem zx_ps {post : Int32 → SX → Prop} {l : Int32} {c H I W T : Nat → Int32} {n : Nat} (hn : n ≤ 24) (eH : ∀ q, q < n → c (0 * 24 + q) = H q) (eI : ∀ q, q < n → c (1 * 24 + q) = I q) (eW : ∀ q, q < n → c (2 * 24 + q) = W q) (eT : ∀ q, q < n → c (3 * 24 + q) = T q) (h : post (zk_pa n H I W T) (nI n, zk_pr n H I W T, zk_pl (zk_ni H I T) (zk_nw H I W T) c (zk_m n H I W T))) : wpX_planSafe post (nI n, l, c) := by
  unfold wpX_planSafe
  dsimp only
  have le : zk_m n H I W T ≤ 0 + n := zk_fst_le n 0
  have k := zx_ps2 (post := post) (l := l) (c := c) hn eH eI eW eT n 0 (by omega) (fun m em hm => ?_) (fun em hh => ?_) (fun em hh => ?_)
  · rw [zk_pl_0] at k
    exact ⟨n + 1, k⟩
  · have em' : zk_m n H I W T = m := em.symm
    unfold zk_pa zk_pr at h
    rw [em', if_pos hm, if_pos hm] at h
    exact h
  · have em' : zk_m n H I W T = n := em
    unfold zk_pa zk_pr at h
    rw [em', if_neg (Nat.lt_irrefl n), if_neg (Nat.lt_irrefl n), if_pos hh, if_pos hh] at h
    exact h
  · have em' : zk_m n H I W T = n := em
    unfold zk_pa zk_pr at h
    rw [em', if_neg (Nat.lt_irrefl n), if_neg (Nat.lt_irrefl n), if_neg hh, if_neg hh] at h
    exact h
theorem zx_preview {post : Int32 → SX → Prop} {l : Int32} {c H I W T : Nat → Int32} {n : Nat} (hn : n ≤ 24) (eH : ∀ q, q < n → c (0 * 24 + q) = H q) (eI : ∀ q, q < n → c (1 * 24 + q) = I q) (eW : ∀ q, q < n → c (2 * 24 + q) = W q) (eT : ∀ q, q < n → c (3 * 24 + q) = T q) (h : post (zk_pa n H I W T) (nI n, zk_pr n H I W T, zk_pl (zk_ni H I T) (zk_nw H I W T) c (zk_m n H I W T))) : wpX_preview post (nI n, l, c) := by
  unfold wpX_preview
  dsimp only
  exact zx_ps hn eH eI eW eT h
theorem zx_s15 {post : Int32 → SX → Prop} {l z : Int32} {c : Nat → Int32} {n : Nat} (hn : n ≤ 24) (h0 : z = 0 → post z (nI n, l, zk_ap n c)) (h1 : ¬ z = 0 → post z (nI n, l, c)) : wX_switchTo_15 post z (nI n) l c := by
  unfold wX_switchTo_15
  by_cases e : z = 0
  · exact br_t e (zx_cp 3 0 (by omega) (by omega) (by omega) hn (zx_cp 4 1 (by omega) (by omega) (by omega) hn (zx_cp 5 2 (by omega) (by omega) (by omega) hn (h0 e))))
  · exact br_f e (h1 e)
theorem zx_sw0 {post : Int32 → SX → Prop} {l : Int32} {c H I W T : Nat → Int32} {n : Nat} (hn : n ≤ 24) (eH : ∀ q, q < n → c (0 * 24 + q) = H q) (eI : ∀ q, q < n → c (1 * 24 + q) = I q) (eW : ∀ q, q < n → c (2 * 24 + q) = W q) (eT : ∀ q, q < n → c (3 * 24 + q) = T q)
    (h0 : zk_pa n H I W T = 0 → post (zk_pa n H I W T) (nI n, zk_pr n H I W T, zk_ap n (zk_pl (zk_ni H I T) (zk_nw H I W T) c (zk_m n H I W T))))
    (h1 : ¬ zk_pa n H I W T = 0 → post (zk_pa n H I W T) (nI n, zk_pr n H I W T, zk_pl (zk_ni H I T) (zk_nw H I W T) c (zk_m n H I W T))) : wpX_switchTo post (nI n, l, c) 0 := by
  unfold wpX_switchTo
  dsimp only
  exact br_t rfl (zx_ps hn eH eI eW eT (zx_s15 hn h0 h1))
theorem zx_sw1 {post : Int32 → SX → Prop} {l : Int32} {c : Nat → Int32} {n : Nat} (hn : n ≤ 24)
    (h : post 0 (nI n, -1, zk_ap n (zk_pl (fun q => c (3 * 24 + q)) (zk_fw n (fun q => c (0 * 24 + q)) (fun q => c (1 * 24 + q)) (fun q => c (2 * 24 + q)) (fun q => c (3 * 24 + q))) c n))) : wpX_switchTo post (nI n, l, c) 1 := by
  unfold wpX_switchTo
  dsimp only
  exact br_f (by decide) (zx_pf hn (zx_s15 hn (fun _ => h) (fun z => absurd rfl z)))
end ZXD
section ZXE
/-! the readers -/
theorem zx_entry {post : Int32 → Prop} {l : Int32} {c : Nat → Int32} {n : Nat} (t p : Nat) (ht : t < 4) (hp : p < n) (hn : n ≤ 24) (h : post (c (t * 24 + p))) : wpX_entry post (nI n, l, c) (nI t) (nI p) := by
  unfold wpX_entry
  dsimp only
  exact zx_it1 ht (br_f (by decide) (zx_ip1 hp hn (br_f (by decide) (zx_get t p (by omega) (by omega) rfl h))))
theorem zx_entry0 {post : Int32 → Prop} {l x y : Int32} {c : Nat → Int32} {n : Nat} (hx : x < 0 ∨ 3 < x) (h : post (-1)) : wpX_entry post (nI n, l, c) x y := by
  unfold wpX_entry
  dsimp only
  exact zx_it0 hx (br_t rfl h)
theorem zx_entry1 {post : Int32 → Prop} {l y : Int32} {c : Nat → Int32} {n : Nat} (t : Nat) (ht : t < 4) (hy : y < 0 ∨ nI n ≤ y) (h : post (-1)) : wpX_entry post (nI n, l, c) (nI t) y := by
  unfold wpX_entry
  dsimp only
  exact zx_it1 ht (br_f (by decide) (zx_ip0 hy (br_t rfl h)))
def zk_kd (n : Nat) (f : Nat → Int32) (p : Nat) : Int32 := if f p = 0 then (cond (zk_fb n f p) 2 0) else 1
theorem zk_kd_c {n p : Nat} {f g : Nat → Int32} (hp : p < n) (h : ∀ q, q < n → f q = g q) : zk_kd n f p = zk_kd n g p := by
  unfold zk_kd
  rw [h p hp, zk_fb_c h]
theorem zx_kind {post : Int32 → Prop} {l : Int32} {c : Nat → Int32} {n : Nat} (t p : Nat) (ht : t < 4) (hp : p < n) (hn : n ≤ 24) (h : post (zk_kd n (fun q => c (t * 24 + q)) p)) : wpX_kind post (nI n, l, c) (nI t) (nI p) := by
  unfold wpX_kind
  dsimp only
  refine zx_it1 ht (br_f (by decide) (zx_ip1 hp hn (br_f (by decide) (zx_get t p (by omega) (by omega) rfl ?_))))
  unfold zk_kd at h
  by_cases z : c (t * 24 + p) = 0
  · rw [if_pos z] at h
    refine br_t z (zx_fb t p (by omega) hp hn ?_)
    cases e : zk_fb n (fun q => c (t * 24 + q)) p with
    | true =>
      rw [e] at h
      exact br_f (by decide) h
    | false =>
      rw [e] at h
      exact br_t rfl h
  · rw [if_neg z] at h
    exact br_f z h
theorem zx_kind0 {post : Int32 → Prop} {l x y : Int32} {c : Nat → Int32} {n : Nat} (hx : x < 0 ∨ 3 < x) (h : post (-1)) : wpX_kind post (nI n, l, c) x y := by
  unfold wpX_kind
  dsimp only
  exact zx_it0 hx (br_t rfl h)
theorem zx_kind1 {post : Int32 → Prop} {l y : Int32} {c : Nat → Int32} {n : Nat} (t : Nat) (ht : t < 4) (hy : y < 0 ∨ nI n ≤ y) (h : post (-1)) : wpX_kind post (nI n, l, c) (nI t) y := by
  unfold wpX_kind
  dsimp only
  exact zx_it1 ht (br_f (by decide) (zx_ip0 hy (br_t rfl h)))
def zk_cm (a b : Int32) : Int32 := if a = b then 0 else if a = 0 then 1 else if b = 0 then 2 else 3
theorem zx_cmp {post : Int32 → Prop} {a b : Int32} (h : post (zk_cm a b)) : wpX_compare post a b := by
  unfold wpX_compare
  unfold zk_cm at h
  by_cases z1 : a = b
  · rw [if_pos z1] at h
    exact br_t z1 h
  · rw [if_neg z1] at h
    refine br_f z1 ?_
    by_cases z2 : a = 0
    · rw [if_pos z2] at h
      exact br_t z2 h
    · rw [if_neg z2] at h
      refine br_f z2 ?_
      by_cases z3 : b = 0
      · rw [if_pos z3] at h
        exact br_t z3 h
      · rw [if_neg z3] at h
        exact br_f z3 h
theorem zx_status {post : Int32 → Prop} {l : Int32} {c : Nat → Int32} {n : Nat} (p : Nat) (hp : p < n) (hn : n ≤ 24) (h : post (zk_cm (c (0 * 24 + p)) (c (1 * 24 + p)) * 4 + zk_cm (c (1 * 24 + p)) (c (2 * 24 + p)))) : wpX_status post (nI n, l, c) (nI p) := by
  unfold wpX_status
  dsimp only
  exact zx_ip1 hp hn (br_f (by decide) (zx_get 0 p (by omega) (by omega) rfl (zx_get 1 p (by omega) (by omega) rfl (zx_get 2 p (by omega) (by omega) rfl (zx_cmp (zx_cmp h))))))
theorem zx_status0 {post : Int32 → Prop} {l x : Int32} {c : Nat → Int32} {n : Nat} (hx : x < 0 ∨ nI n ≤ x) (h : post (-1)) : wpX_status post (nI n, l, c) x := by
  unfold wpX_status
  dsimp only
  exact zx_ip0 hx (br_t rfl h)
theorem zx_cf13 {post : Int32 → Prop} {l : Int32} {c : Nat → Int32} {n : Nat} (t : Nat) (ht : t < 6) (hn : n ≤ 24) : ∀ d i r, i + d = n → post (nI (r + zk_cn (zk_nz (fun q => c (t * 24 + q))) d i)) → wX_countFiles_13 post (nI t) (nI n) l c (d + 1) (nI r) (nI i) := by
  intro d
  induction d with
  | zero =>
    intro i r hi h
    exact br_t (nI_le (a := n) (b := i) (by omega) (by omega)) h
  | succ d ih =>
    intro i r hi h
    refine br_f (nI_ge (a := i) (b := n) (by omega) (by omega)) (zx_get t i ht (by omega) rfl ?_)
    by_cases z : c (t * 24 + i) = 0
    · rw [zk_cn_f (g := zk_nz (fun q => c (t * 24 + q))) (zk_nd0 z)] at h
      exact br_t z (nm_r (nI_1 i) (ih (i + 1) r (by omega) h))
    · rw [zk_cn_t (g := zk_nz (fun q => c (t * 24 + q))) (zk_nd z), ← Nat.add_assoc] at h
      exact br_f z (nm_r (nI_1 r) (nm_r (nI_1 i) (ih (i + 1) (r + 1) (by omega) h)))
theorem zx_count {post : Int32 → Prop} {l : Int32} {c : Nat → Int32} {n : Nat} (t : Nat) (ht : t < 4) (hn : n ≤ 24) (h : post (nI (zk_cn (zk_nz (fun q => c (t * 24 + q))) n 0))) : wpX_countFiles post (nI n, l, c) (nI t) := by
  unfold wpX_countFiles
  dsimp only
  exact zx_it1 ht (br_f (by decide) ⟨n + 1, zx_cf13 t (by omega) hn n 0 0 (by omega) (by rw [Nat.zero_add]; exact h)⟩)
theorem zx_count0 {post : Int32 → Prop} {l x : Int32} {c : Nat → Int32} {n : Nat} (hx : x < 0 ∨ 3 < x) (h : post (-1)) : wpX_countFiles post (nI n, l, c) x := by
  unfold wpX_countFiles
  dsimp only
  exact zx_it0 hx (br_t rfl h)
end ZXE
end
section
section ZYA
/-! the reference's small methods; the state is (nI n, l, a0, .., a5) -/
def zk_tr (a0 a1 a2 a3 a4 a5 : Nat → Int32) : Nat → Nat → Int32
  | 0 => a0
  | 1 => a1
  | 2 => a2
  | 3 => a3
  | 4 => a4
  | _ => a5
theorem zy_get {post : Int32 → Prop} {v : Int32} {l : Int32} {n : Nat} {a0 a1 a2 a3 a4 a5 : Nat → Int32} (k p : Nat) (hk : k < 6) (hp : p < n) (hn : n ≤ 24) (e : zk_tr a0 a1 a2 a3 a4 a5 k p = v) (h : post v) : wpY_get post (nI n, l, a0, a1, a2, a3, a4, a5) (nI k) (nI p) := by
  unfold wpY_get
  dsimp only
  rw [nI_clamp (show p < 2 ^ 31 by omega)]
  have hi : vp_in (nI p) 24 := vp_in_nI (by omega) (by omega)
  refine br_f (nI_pos (by omega)) (br_t (nI_lt hp (by omega)) ?_)
  subst e
  match k, hk, h with
  | 0, _, h => exact br_t rfl ⟨hi, h⟩
  | 1, _, h => exact br_f (by decide) (br_t rfl ⟨hi, h⟩)
  | 2, _, h => exact br_f (by decide) (br_f (by decide) (br_t rfl ⟨hi, h⟩))
  | 3, _, h => exact br_f (by decide) (br_f (by decide) (br_f (by decide) (br_t rfl ⟨hi, h⟩)))
  | 4, _, h => exact br_f (by decide) (br_f (by decide) (br_f (by decide) (br_f (by decide) (br_t rfl ⟨hi, h⟩))))
  | 5, _, h => exact br_f (by decide) (br_f (by decide) (br_f (by decide) (br_f (by decide) (br_f (by decide) (br_t rfl ⟨hi, h⟩)))))
  | k + 6, hk, _ => exact absurd hk (by omega)
theorem zy_an19 {post : Int32 → Prop} {N l : Int32} {a0 a1 a2 a3 a4 a5 : Nat → Int32} {a : Nat} (ha : a < 24) : ∀ d s x, s + d = 8 → x < 24 → post (zk_b (zk_up a d x)) → wY_isAnc_19 post (nI a) N l a0 a1 a2 a3 a4 a5 (d + 1) (nI x) (nI s) := by
  intro d
  induction d with
  | zero =>
    intro s x hs hx h
    exact br_t (nI_le (a := 8) (b := s) (by omega) (by omega)) h
  | succ d ih =>
    intro s x hs hx h
    refine br_f (nI_ge (b := 8) (a := s) (by omega) (by decide)) ?_
    by_cases h4 : x < 4
    · rw [zk_up, if_pos h4] at h
      exact br_f (nI_ge (b := 4) (a := x) h4 (by decide)) h
    · rw [zk_up, if_neg h4] at h
      refine br_t (nI_le (a := 4) (b := x) (by omega) (by omega)) ⟨by decide, nm_r (zx_q4 (by omega) hx) (pk_eq (x / 4 - 1) a (fun e => ?_) (fun e => nm_r (nI_1 s) (ih (s + 1) (x / 4 - 1) (by omega) (by omega) ?_)))⟩
      · rw [if_pos e] at h
        exact h
      · rw [if_neg e] at h
        exact h
theorem zy_an {post : Int32 → Prop} {l : Int32} {n : Nat} {a0 a1 a2 a3 a4 a5 : Nat → Int32} (a p : Nat) (ha : a < 24) (hp : p < n) (hn : n ≤ 24) (h : post (zk_b (zk_an a p))) : wpY_isAnc post (nI n, l, a0, a1, a2, a3, a4, a5) (nI a) (nI p) := by
  unfold wpY_isAnc
  dsimp only
  exact br_f (nI_pos (by omega)) (br_t (nI_lt hp (by omega)) ⟨9, zy_an19 ha 8 0 p rfl (by omega) h⟩)
theorem zy_fa2 {post : Int32 → Prop} {l : Int32} {n : Nat} {a0 a1 a2 a3 a4 a5 : Nat → Int32} (t p : Nat) (ht : t < 6) (hp : p < n) (hn : n ≤ 24) : ∀ d i, i + d = n → post (zk_b (zk_any (zk_ga (zk_tr a0 a1 a2 a3 a4 a5 t) p) d i)) → wY_hasAncFile_2 post (nI t) (nI p) (nI n) l a0 a1 a2 a3 a4 a5 (d + 1) (nI i) := by
  intro d
  induction d with
  | zero =>
    intro i hi h
    exact br_t (nI_le (a := n) (b := i) (by omega) (by omega)) h
  | succ d ih =>
    intro i hi h
    refine br_f (nI_ge (a := i) (b := n) (by omega) (by omega)) (zy_get t i ht (by omega) hn rfl ?_)
    by_cases z : zk_tr a0 a1 a2 a3 a4 a5 t i = 0
    · rw [zk_any, zk_ga0 z, Bool.false_or] at h
      exact br_t z (nm_r (nI_1 i) (ih (i + 1) (by omega) h))
    · rw [zk_any, zk_ga1 z] at h
      refine br_f z (zy_an i p (by omega) hp hn ?_)
      cases e : zk_an i p with
      | false =>
        rw [e, Bool.false_or] at h
        exact br_t rfl (nm_r (nI_1 i) (ih (i + 1) (by omega) h))
      | true =>
        rw [e, Bool.true_or] at h
        exact br_f (by decide) h
theorem zy_fa {post : Int32 → Prop} {l : Int32} {n : Nat} {a0 a1 a2 a3 a4 a5 : Nat → Int32} {f : Nat → Int32} (t p : Nat) (ht : t < 6) (hp : p < n) (hn : n ≤ 24) (e : zk_tr a0 a1 a2 a3 a4 a5 t = f) (h : post (zk_b (zk_fa n f p))) : wpY_hasAncFile post (nI n, l, a0, a1, a2, a3, a4, a5) (nI t) (nI p) := by
  subst e
  unfold wpY_hasAncFile
  dsimp only
  exact ⟨n + 1, zy_fa2 t p ht hp hn n 0 (by omega) h⟩
theorem zy_fb2 {post : Int32 → Prop} {l : Int32} {n : Nat} {a0 a1 a2 a3 a4 a5 : Nat → Int32} (t p : Nat) (ht : t < 6) (hp : p < n) (hn : n ≤ 24) : ∀ d i, i + d = n → post (zk_b (zk_any (zk_gb (zk_tr a0 a1 a2 a3 a4 a5 t) p) d i)) → wY_hasDescFile_2 post (nI t) (nI p) (nI n) l a0 a1 a2 a3 a4 a5 (d + 1) (nI i) := by
  intro d
  induction d with
  | zero =>
    intro i hi h
    exact br_t (nI_le (a := n) (b := i) (by omega) (by omega)) h
  | succ d ih =>
    intro i hi h
    refine br_f (nI_ge (a := i) (b := n) (by omega) (by omega)) (zy_get t i ht (by omega) hn rfl ?_)
    by_cases z : zk_tr a0 a1 a2 a3 a4 a5 t i = 0
    · rw [zk_any, zk_gb0 z, Bool.false_or] at h
      exact br_t z (nm_r (nI_1 i) (ih (i + 1) (by omega) h))
    · rw [zk_any, zk_gb1 z] at h
      refine br_f z (zy_an p i (by omega) (by omega) hn ?_)
      cases e : zk_an p i with
      | false =>
        rw [e, Bool.false_or] at h
        exact br_t rfl (nm_r (nI_1 i) (ih (i + 1) (by omega) h))
      | true =>
        rw [e, Bool.true_or] at h
        exact br_f (by decide) h
theorem zy_fb {post : Int32 → Prop} {l : Int32} {n : Nat} {a0 a1 a2 a3 a4 a5 : Nat → Int32} {f : Nat → Int32} (t p : Nat) (ht : t < 6) (hp : p < n) (hn : n ≤ 24) (e : zk_tr a0 a1 a2 a3 a4 a5 t = f) (h : post (zk_b (zk_fb n f p))) : wpY_hasDescFile post (nI n, l, a0, a1, a2, a3, a4, a5) (nI t) (nI p) := by
  subst e
  unfold wpY_hasDescFile
  dsimp only
  exact ⟨n + 1, zy_fb2 t p ht hp hn n 0 (by omega) h⟩
theorem zy_no {A B : Prop} {n : Nat} {x : Int32} (hx : x < 0 ∨ nI n ≤ x) (h : B) : (x < 0 → B) ∧ (¬ x < 0 → ((x < nI n → A) ∧ (¬ x < nI n → B))) := by
  by_cases e : x < 0
  · exact br_t e h
  · exact br_f e (br_f (Int32.not_lt.mpr (hx.resolve_left e)) h)
end ZYA
section ZYB
/-! write, setTarget, delete, stage, commit, targetFromHead -/
theorem zy_write {post : Int32 → SY → Prop} {y : Int32} {l : Int32} {n : Nat} {a0 a1 a2 a3 a4 a5 : Nat → Int32} {p : Nat} (hp : p < n) (hn : n ≤ 24) (h : post (zk_b (zk_wo n a2 p y)) (nI n, l, a0, a1, cond (zk_wo n a2 p y) (upd a2 p y) a2, a3, a4, a5)) : wpY_write post (nI n, l, a0, a1, a2, a3, a4, a5) (nI p) y := by
  unfold wpY_write
  dsimp only
  rw [nI_clamp (show p < 2 ^ 31 by omega)]
  refine br_f (nI_pos (by omega)) (br_t (nI_lt hp (by omega)) ?_)
  unfold zk_wo at h
  by_cases h1 : y < 1
  · rw [if_pos h1] at h
    exact br_t h1 h
  · rw [if_neg h1] at h
    refine br_f h1 ?_
    by_cases h2 : y ≤ 1000
    · rw [if_pos h2] at h
      refine br_t h2 (zy_fa (f := a2) 2 p (by omega) hp hn rfl ?_)
      cases ea : zk_fa n a2 p with
      | true =>
        rw [ea] at h
        exact br_f (by decide) h
      | false =>
        refine br_t rfl (zy_fb (f := a2) 2 p (by omega) hp hn rfl ?_)
        cases eb : zk_fb n a2 p with
        | true =>
          rw [ea, eb] at h
          exact br_f (by decide) h
        | false =>
          rw [ea, eb] at h
          exact br_t rfl ⟨vp_in_nI (by omega) (by omega), nm_e h⟩
    · rw [if_neg h2] at h
      exact br_f h2 h
theorem zy_write0 {post : Int32 → SY → Prop} {x y : Int32} {l : Int32} {n : Nat} {a0 a1 a2 a3 a4 a5 : Nat → Int32} (hx : x < 0 ∨ nI n ≤ x) (h : post 0 (nI n, l, a0, a1, a2, a3, a4, a5)) : wpY_write post (nI n, l, a0, a1, a2, a3, a4, a5) x y := by
  unfold wpY_write
  dsimp only
  exact zy_no hx h
theorem zy_setTarget {post : Int32 → SY → Prop} {y : Int32} {l : Int32} {n : Nat} {a0 a1 a2 a3 a4 a5 : Nat → Int32} {p : Nat} (hp : p < n) (hn : n ≤ 24) (h : post (zk_b (zk_to n a3 p y)) (nI n, l, a0, a1, a2, cond (zk_to n a3 p y) (upd a3 p y) a3, a4, a5)) : wpY_setTarget post (nI n, l, a0, a1, a2, a3, a4, a5) (nI p) y := by
  unfold wpY_setTarget
  dsimp only
  rw [nI_clamp (show p < 2 ^ 31 by omega)]
  refine br_f (nI_pos (by omega)) (br_t (nI_lt hp (by omega)) ?_)
  unfold zk_to at h
  by_cases h1 : y < 0
  · rw [if_pos h1] at h
    exact br_t h1 h
  · rw [if_neg h1] at h
    refine br_f h1 ?_
    by_cases h2 : y ≤ 1000
    · rw [if_pos h2] at h
      refine br_t h2 ?_
      by_cases h3 : y = 0
      · rw [if_pos h3] at h
        exact br_t h3 ⟨vp_in_nI (by omega) (by omega), nm_e h⟩
      · rw [if_neg h3] at h
        refine br_f h3 (zy_fa (f := a3) 3 p (by omega) hp hn rfl ?_)
        cases ea : zk_fa n a3 p with
        | true =>
          rw [ea] at h
          exact br_f (by decide) h
        | false =>
          refine br_t rfl (zy_fb (f := a3) 3 p (by omega) hp hn rfl ?_)
          cases eb : zk_fb n a3 p with
          | true =>
            rw [ea, eb] at h
            exact br_f (by decide) h
          | false =>
            rw [ea, eb] at h
            exact br_t rfl ⟨vp_in_nI (by omega) (by omega), nm_e h⟩
    · rw [if_neg h2] at h
      exact br_f h2 h
theorem zy_setTarget0 {post : Int32 → SY → Prop} {x y : Int32} {l : Int32} {n : Nat} {a0 a1 a2 a3 a4 a5 : Nat → Int32} (hx : x < 0 ∨ nI n ≤ x) (h : post 0 (nI n, l, a0, a1, a2, a3, a4, a5)) : wpY_setTarget post (nI n, l, a0, a1, a2, a3, a4, a5) x y := by
  unfold wpY_setTarget
  dsimp only
  exact zy_no hx h
theorem zk_rz {F c : Nat → Int32} {i : Nat} : zk_rw 0 F c i i = c i := zk_rw_out (by omega)
theorem zy_del18 {post : Int32 → SY → Prop} {l : Int32} {n : Nat} {a0 a1 a2 a3 a4 a5 : Nat → Int32} {p : Nat} (hp : p < n) (hn : n ≤ 24) : ∀ d i r, i + d = n → post (nI (r + zk_cn (zk_dg p a2) d i)) (nI n, l, a0, a1, zk_rw 0 (zk_dF p a2) a2 n, a3, a4, a5) → wY_delete_18 post (nI p) (nI n) l (d + 1) (nI r) (nI i) a0 a1 (zk_rw 0 (zk_dF p a2) a2 i) a3 a4 a5 := by
  intro d
  induction d with
  | zero =>
    intro i r hi h
    have e : i = n := by omega
    subst e
    exact br_t (nI_le (Nat.le_refl i) (by omega)) h
  | succ d ih =>
    intro i r hi h
    have ec : zk_rw 0 (zk_dF p a2) a2 i (nI i).toNatClampNeg = a2 i := by
      rw [nI_clamp (by omega)]
      exact zk_rz
    have hv : vp_in (nI i) 24 := vp_in_nI (by omega) (by omega)
    refine br_f (nI_ge (a := i) (b := n) (by omega) (by omega)) ⟨hv, ?_⟩
    by_cases z : a2 i = 0
    · refine br_t (ec.trans z) (nm_r (nI_1 i) ?_)
      rw [zk_rw_st (show zk_dF p a2 i = a2 (0 + i) by rw [Nat.zero_add]; exact zk_dF_0 z)]
      rw [zk_cn_f (zk_dg_0 z)] at h
      exact ih (i + 1) r (by omega) h
    · refine br_f (fun z' => z (ec.symm.trans z')) ?_
      have body : (i = p ∨ zk_an p i = true) → wY_delete_49 post (wY_delete_18 post (nI p) (nI n) l (d + 1)) (nI p) (nI r) (nI i) (nI n) l a0 a1 (zk_rw 0 (zk_dF p a2) a2 i) a3 a4 a5 := by
        intro hm
        unfold wY_delete_49
        rw [nI_clamp (show i < 2 ^ 31 by omega), zk_rw_up (by omega) (zk_dF_t hm).symm]
        rw [zk_cn_t (zk_dg_t hm z), ← Nat.add_assoc] at h
        exact ⟨hv, nm_e (nm_r (nI_1 r) (nm_r (nI_1 i) (ih (i + 1) (r + 1) (by omega) h)))⟩
      refine pk_eq i p (fun e => body (Or.inl e)) (fun ne => zy_an p i (by omega) (by omega) hn ?_)
      cases e : zk_an p i with
      | false =>
        have hm : ¬ (i = p ∨ zk_an p i = true) := by
          rintro (z | z)
          · exact ne z
          · rw [e] at z
            exact absurd z (by decide)
        refine br_t rfl (nm_r (nI_1 i) ?_)
        rw [zk_rw_st (show zk_dF p a2 i = a2 (0 + i) by rw [Nat.zero_add]; exact zk_dF_n hm)]
        rw [zk_cn_f (zk_dg_n hm)] at h
        exact ih (i + 1) r (by omega) h
      | true => exact br_f (by decide) (body (Or.inr e))
theorem zy_delete {post : Int32 → SY → Prop} {l : Int32} {n : Nat} {a0 a1 a2 a3 a4 a5 : Nat → Int32} {p : Nat} (hp : p < n) (hn : n ≤ 24) (h : post (nI (zk_cn (zk_dg p a2) n 0)) (nI n, l, a0, a1, zk_rw 0 (zk_dF p a2) a2 n, a3, a4, a5)) : wpY_delete post (nI n, l, a0, a1, a2, a3, a4, a5) (nI p) := by
  unfold wpY_delete
  dsimp only
  have k := zy_del18 (post := post) (l := l) (a0 := a0) (a1 := a1) (a2 := a2) (a3 := a3) (a4 := a4) (a5 := a5) hp hn n 0 0 (by omega) (by rw [Nat.zero_add]; exact h)
  rw [zk_rw_0] at k
  exact br_f (nI_pos (by omega)) (br_t (nI_lt hp (by omega)) ⟨n + 1, k⟩)
theorem zy_delete0 {post : Int32 → SY → Prop} {x : Int32} {l : Int32} {n : Nat} {a0 a1 a2 a3 a4 a5 : Nat → Int32} (hx : x < 0 ∨ nI n ≤ x) (h : post (-1) (nI n, l, a0, a1, a2, a3, a4, a5)) : wpY_delete post (nI n, l, a0, a1, a2, a3, a4, a5) x := by
  unfold wpY_delete
  dsimp only
  exact zy_no hx h
theorem zy_st34 {post : Int32 → SY → Prop} {l : Int32} {n : Nat} {a0 a1 a2 a3 a4 a5 : Nat → Int32} {p : Nat} (hp : p < n) (hn : n ≤ 24) : ∀ d i, i + d = n → post 1 (nI n, l, a0, zk_rw 0 (zk_cF p a1) a1 n, a2, a3, a4, a5) → wY_stage_34 post (nI p) (nI n) l (d + 1) (nI i) a0 (zk_rw 0 (zk_cF p a1) a1 i) a2 a3 a4 a5 := by
  intro d
  induction d with
  | zero =>
    intro i hi h
    have e : i = n := by omega
    subst e
    exact br_t (nI_le (Nat.le_refl i) (by omega)) h
  | succ d ih =>
    intro i hi h
    have hv : vp_in (nI i) 24 := vp_in_nI (by omega) (by omega)
    have up : (zk_an i p = true ∨ zk_an p i = true) → upd (zk_rw 0 (zk_cF p a1) a1 i) (nI i).toNatClampNeg 0 = zk_rw 0 (zk_cF p a1) a1 (i + 1) := by
      intro hm
      rw [nI_clamp (show i < 2 ^ 31 by omega), zk_rw_up (by omega) (zk_cF_t hm).symm]
    refine br_f (nI_ge (a := i) (b := n) (by omega) (by omega)) (zy_an i p (by omega) hp hn ?_)
    cases e : zk_an i p with
    | true => exact br_f (by decide) ⟨hv, nm_r (up (Or.inl e)) (nm_r (nI_1 i) (ih (i + 1) (by omega) h))⟩
    | false =>
      refine br_t rfl (zy_an p i (by omega) (by omega) hn ?_)
      cases e2 : zk_an p i with
      | true => exact br_f (by decide) ⟨hv, nm_r (up (Or.inr e2)) (nm_r (nI_1 i) (ih (i + 1) (by omega) h))⟩
      | false =>
        have hm : ¬ (zk_an i p = true ∨ zk_an p i = true) := by
          rw [e, e2]
          decide
        refine br_t rfl (nm_r (nI_1 i) ?_)
        rw [zk_rw_st (show zk_cF p a1 i = a1 (0 + i) by rw [Nat.zero_add]; exact zk_cF_n hm)]
        exact ih (i + 1) (by omega) h
def zk_sy (n : Nat) (a1 a2 : Nat → Int32) (p : Nat) : Nat → Int32 :=
  if a2 p = 0 then upd a1 p (a2 p) else zk_rw 0 (zk_cF p (upd a1 p (a2 p))) (upd a1 p (a2 p)) n
theorem zy_stage {post : Int32 → SY → Prop} {l : Int32} {n : Nat} {a0 a1 a2 a3 a4 a5 : Nat → Int32} {p : Nat} (hp : p < n) (hn : n ≤ 24) (h : post 1 (nI n, l, a0, zk_sy n a1 a2 p, a2, a3, a4, a5)) : wpY_stage post (nI n, l, a0, a1, a2, a3, a4, a5) (nI p) := by
  unfold wpY_stage
  dsimp only
  rw [nI_clamp (show p < 2 ^ 31 by omega)]
  have hv : vp_in (nI p) 24 := vp_in_nI (by omega) (by omega)
  refine br_f (nI_pos (by omega)) (br_t (nI_lt hp (by omega)) ⟨hv, nm_e ⟨hv, nm_e ?_⟩⟩)
  unfold zk_sy at h
  by_cases z : a2 p = 0
  · rw [if_pos z] at h
    exact br_t z h
  · rw [if_neg z] at h
    have k := zy_st34 (post := post) (l := l) (a0 := a0) (a1 := upd a1 p (a2 p)) (a2 := a2) (a3 := a3) (a4 := a4) (a5 := a5) hp hn n 0 (by omega) h
    rw [zk_rw_0] at k
    exact br_f z ⟨n + 1, k⟩
theorem zy_stage0 {post : Int32 → SY → Prop} {x : Int32} {l : Int32} {n : Nat} {a0 a1 a2 a3 a4 a5 : Nat → Int32} (hx : x < 0 ∨ nI n ≤ x) (h : post 0 (nI n, l, a0, a1, a2, a3, a4, a5)) : wpY_stage post (nI n, l, a0, a1, a2, a3, a4, a5) x := by
  unfold wpY_stage
  dsimp only
  exact zy_no hx h
theorem zy_cm4 {post : Int32 → SY → Prop} {l : Int32} {n : Nat} {a0 a1 a2 a3 a4 a5 : Nat → Int32} (hn : n ≤ 24) : ∀ d i r, i + d = n → post (nI (r + zk_cn (zk_ne a0 a1) d i)) (nI n, l, zk_rw 0 a1 a0 n, a1, a2, a3, a4, a5) → wY_commit_4 post (nI n) l (d + 1) (nI r) (nI i) (zk_rw 0 a1 a0 i) a1 a2 a3 a4 a5 := by
  intro d
  induction d with
  | zero =>
    intro i r hi h
    have e : i = n := by omega
    subst e
    exact br_t (nI_le (Nat.le_refl i) (by omega)) h
  | succ d ih =>
    intro i r hi h
    have hv : vp_in (nI i) 24 := vp_in_nI (by omega) (by omega)
    have e1 : a1 (nI i).toNatClampNeg = a1 i := by rw [nI_clamp (by omega)]
    have e0 : zk_rw 0 a1 a0 i (nI i).toNatClampNeg = a0 i := by
      rw [nI_clamp (by omega)]
      exact zk_rz
    have up : upd (zk_rw 0 a1 a0 i) (nI i).toNatClampNeg (a1 (nI i).toNatClampNeg) = zk_rw 0 a1 a0 (i + 1) := by
      rw [nI_clamp (show i < 2 ^ 31 by omega), zk_rw_up (by omega) rfl]
    refine br_f (nI_ge (a := i) (b := n) (by omega) (by omega)) ⟨hv, hv, ?_⟩
    rw [e0, e1]
    by_cases z : a0 i = a1 i
    · rw [zk_cn_f (g := zk_ne a0 a1) (zk_nd0 z)] at h
      refine br_t z ?_
      unfold wY_commit_30
      exact ⟨hv, hv, nm_r up (nm_r (nI_1 i) (ih (i + 1) r (by omega) h))⟩
    · rw [zk_cn_t (g := zk_ne a0 a1) (zk_nd z), ← Nat.add_assoc] at h
      refine br_f z (nm_r (nI_1 r) ?_)
      unfold wY_commit_30
      exact ⟨hv, hv, nm_r up (nm_r (nI_1 i) (ih (i + 1) (r + 1) (by omega) h))⟩
theorem zy_commit {post : Int32 → SY → Prop} {l : Int32} {n : Nat} {a0 a1 a2 a3 a4 a5 : Nat → Int32} (hn : n ≤ 24) (h : post (nI (zk_cn (zk_ne a0 a1) n 0)) (nI n, l, zk_rw 0 a1 a0 n, a1, a2, a3, a4, a5)) : wpY_commit post (nI n, l, a0, a1, a2, a3, a4, a5) := by
  unfold wpY_commit
  dsimp only
  have k := zy_cm4 (post := post) (l := l) (a0 := a0) (a1 := a1) (a2 := a2) (a3 := a3) (a4 := a4) (a5 := a5) hn n 0 0 (by omega) (by rw [Nat.zero_add]; exact h)
  rw [zk_rw_0] at k
  exact ⟨n + 1, k⟩
theorem zy_th2 {post : SY → Prop} {l : Int32} {n : Nat} {a0 a1 a2 a3 a4 a5 : Nat → Int32} (hn : n ≤ 24) : ∀ d i, i + d = n → post (nI n, l, a0, a1, a2, zk_rw 0 a0 a3 n, a4, a5) → wY_targetFromHead_2 post (nI n) l (d + 1) (nI i) a0 a1 a2 (zk_rw 0 a0 a3 i) a4 a5 := by
  intro d
  induction d with
  | zero =>
    intro i hi h
    have e : i = n := by omega
    subst e
    exact br_t (nI_le (Nat.le_refl i) (by omega)) h
  | succ d ih =>
    intro i hi h
    have hv : vp_in (nI i) 24 := vp_in_nI (by omega) (by omega)
    have up : upd (zk_rw 0 a0 a3 i) (nI i).toNatClampNeg (a0 (nI i).toNatClampNeg) = zk_rw 0 a0 a3 (i + 1) := by
      rw [nI_clamp (show i < 2 ^ 31 by omega), zk_rw_up (by omega) rfl]
    exact br_f (nI_ge (a := i) (b := n) (by omega) (by omega)) ⟨hv, hv, nm_r up (nm_r (nI_1 i) (ih (i + 1) (by omega) h))⟩
theorem zy_tfh {post : SY → Prop} {l : Int32} {n : Nat} {a0 a1 a2 a3 a4 a5 : Nat → Int32} (hn : n ≤ 24) (h : post (nI n, l, a0, a1, a2, zk_rw 0 a0 a3 n, a4, a5)) : wpY_targetFromHead post (nI n, l, a0, a1, a2, a3, a4, a5) := by
  unfold wpY_targetFromHead
  dsimp only
  have k := zy_th2 (post := post) (l := l) (a0 := a0) (a1 := a1) (a2 := a2) (a3 := a3) (a4 := a4) (a5 := a5) hn n 0 (by omega) h
  rw [zk_rw_0] at k
  exact ⟨n + 1, k⟩
end ZYB
section ZYC
/-! the plans -/
theorem zy_218 {post : Int32 → SY → Prop} {J : Int32 → Prop} {l : Int32} {n : Nat} {a0 a1 a2 a3 a4 a5 : Nat → Int32} {i : Nat} {a : Bool} (ht : a = true → post 4 (nI n, nI i, a0, a1, a2, a3, a4, a5)) (hf : a = false → J (nI (i + 1))) : wY_plan_218 post J (nI i) (zk_b a) (nI n) l a0 a1 a2 a3 a4 a5 := by
  unfold wY_plan_218
  cases a with
  | true => exact br_f (by decide) (ht rfl)
  | false => exact br_t rfl (nm_r (nI_1 i) (hf rfl))
theorem zy_198 {post : Int32 → SY → Prop} {J : Int32 → Prop} {l : Int32} {n : Nat} {a0 a1 a2 a3 a4 a5 : Nat → Int32} {i : Nat} {a : Bool} (hi : i < n) (hn : n ≤ 24)
    (ht : (a || (!decide (a5 i = 0) && zk_fb n a5 i)) = true → post 4 (nI n, nI i, a0, a1, a2, a3, a4, a5))
    (hf : (a || (!decide (a5 i = 0) && zk_fb n a5 i)) = false → J (nI (i + 1))) : wY_plan_198 post J (nI i) (zk_b a) (nI n) l a0 a1 a2 a3 a4 a5 := by
  unfold wY_plan_198
  rw [nI_clamp (show i < 2 ^ 31 by omega)]
  refine ⟨vp_in_nI (by omega) (by omega), ?_⟩
  by_cases z : a5 i = 0
  · rw [zk_nd0 z, Bool.false_and, Bool.or_false] at ht hf
    exact br_t z (zy_218 ht hf)
  · rw [zk_nd z, Bool.true_and] at ht hf
    refine br_f z (zy_fb (f := a5) 5 i (by omega) hi hn rfl ?_)
    cases e : zk_fb n a5 i with
    | true =>
      rw [e, Bool.or_true] at ht
      exact br_f (by decide) (zy_218 (a := true) ht (fun z => absurd z (by decide)))
    | false =>
      rw [e, Bool.or_false] at ht hf
      exact br_t rfl (zy_218 ht hf)
theorem zy_168 {post : Int32 → SY → Prop} {l : Int32} {n : Nat} {a0 a1 a2 a3 a4 a5 : Nat → Int32} (hn : n ≤ 24) : ∀ d i, i + d = n → (zk_fst (zk_gh n a4 a5) d i < n → post 4 (nI n, nI (zk_fst (zk_gh n a4 a5) d i), a0, a1, a2, a3, a4, a5)) → (¬ zk_fst (zk_gh n a4 a5) d i < n → post 0 (nI n, -1, a0, a1, a2, a3, a4, a5)) → wY_plan_168 post (nI n) l a0 a1 a2 a3 a4 a5 (d + 1) (nI i) := by
  intro d
  induction d with
  | zero =>
    intro i hi _ h
    exact br_t (nI_le (a := n) (b := i) (by omega) (by omega)) (h (by show ¬ i < n; omega))
  | succ d ih =>
    intro i hi ht hf
    have T : zk_gh n a4 a5 i = true → post 4 (nI n, nI i, a0, a1, a2, a3, a4, a5) := by
      intro e
      rw [zk_fst_t e] at ht
      exact ht (by omega)
    have F : zk_gh n a4 a5 i = false → wY_plan_168 post (nI n) l a0 a1 a2 a3 a4 a5 (d + 1) (nI (i + 1)) := by
      intro e
      rw [zk_fst_f e] at ht hf
      exact ih (i + 1) (by omega) ht hf
    unfold zk_gh at T F
    have ec : a4 (nI i).toNatClampNeg = a4 i := by rw [nI_clamp (by omega)]
    refine br_f (nI_ge (a := i) (b := n) (by omega) (by omega)) ⟨vp_in_nI (by omega) (by omega), ?_⟩
    rw [ec]
    by_cases z : a4 i = 0
    · rw [zk_nd0 z, Bool.false_and] at T F
      exact br_t z (zy_198 (a := false) (by omega) hn T F)
    · rw [zk_nd z, Bool.true_and] at T F
      refine br_f z (zy_fb (f := a4) 4 i (by omega) (by omega) hn rfl ?_)
      cases e : zk_fb n a4 i with
      | true =>
        rw [e] at T F
        exact br_f (by decide) (zy_198 (a := true) (by omega) hn T F)
      | false =>
        rw [e] at T F
        exact br_t rfl (zy_198 (a := false) (by omega) hn T F)
theorem zy_p100 {post : Int32 → SY → Prop} {J : Int32 → (Nat → Int32) → (Nat → Int32) → (Nat → Int32) → (Nat → Int32) → (Nat → Int32) → (Nat → Int32) → Prop} {h i w t : Int32} {l : Int32} {n : Nat} {a0 a1 a2 a3 a4 a5 : Nat → Int32} {p : Nat} (hp : p < 24) (n1 : ¬ h = t) (n2 : ¬ (w = i ∧ (i = h ∨ i = t)))
    (ok : zk_RF h i w t = 0 → J (nI (p + 1)) a0 a1 a2 a3 (upd a4 p (zk_NI h i t)) (upd a5 p (zk_NW h i w t)))
    (no : ¬ zk_RF h i w t = 0 → post (zk_RF h i w t) (nI n, nI p, a0, a1, a2, a3, a4, a5)) : wY_plan_100 post J (nI p) h i w t (nI n) l a0 a1 a2 a3 a4 a5 := by
  unfold wY_plan_100
  rw [nI_clamp (show p < 2 ^ 31 by omega)]
  unfold zk_RF zk_NI zk_NW at ok
  unfold zk_RF at no
  rw [if_neg n1, if_neg n2] at no
  rw [if_neg n1, if_neg n2, if_neg n1, if_neg n1, if_neg n2] at ok
  have hv : vp_in (nI p) 24 := vp_in_nI (by omega) (by omega)
  by_cases z1 : i = t
  · rw [if_pos z1] at ok
    exact br_t z1 ⟨hv, nm_e ⟨hv, nm_e (nm_r (nI_1 p) (ok rfl))⟩⟩
  · rw [if_neg z1] at no
    refine br_f z1 ?_
    by_cases z2 : i = h
    · rw [if_neg (fun z => z z2)] at no
      refine br_t z2 ?_
      by_cases z3 : i = 0
      · rw [if_pos z3] at no
        exact br_t z3 (no (by decide))
      · rw [if_neg z3] at no
        refine br_f z3 ?_
        unfold wY_plan_141
        exact br_t z2 (no (by decide))
    · rw [if_pos z2] at no
      refine br_f z2 ?_
      unfold wY_plan_141
      exact br_f z2 (no (by decide))
theorem zy_p81 {post : Int32 → SY → Prop} {J : Int32 → (Nat → Int32) → (Nat → Int32) → (Nat → Int32) → (Nat → Int32) → (Nat → Int32) → (Nat → Int32) → Prop} {t : Int32} {l : Int32} {n : Nat} {a0 a1 a2 a3 a4 a5 : Nat → Int32} {p : Nat} (hp : p < 24)
    (ok : J (nI (p + 1)) a0 a1 a2 a3 (upd a4 p t) (upd a5 p t)) : wY_plan_81 post J (nI p) t (nI n) l a0 a1 a2 a3 a4 a5 := by
  unfold wY_plan_81
  rw [nI_clamp (show p < 2 ^ 31 by omega)]
  have hv : vp_in (nI p) 24 := vp_in_nI (by omega) (by omega)
  exact ⟨hv, nm_e ⟨hv, nm_e (nm_r (nI_1 p) ok)⟩⟩
theorem zy_pstep {post : Int32 → SY → Prop} {f : Nat} {l : Int32} {n : Nat} {a0 a1 a2 a3 a4 a5 : Nat → Int32} {p : Nat} (hp : p < n) (hn : n ≤ 24)
    (ok : zk_RF (a0 p) (a1 p) (a2 p) (a3 p) = 0 → wY_plan_2 post (nI n) l f (nI (p + 1)) a0 a1 a2 a3 (upd a4 p (zk_NI (a0 p) (a1 p) (a3 p))) (upd a5 p (zk_NW (a0 p) (a1 p) (a2 p) (a3 p))))
    (no : ¬ zk_RF (a0 p) (a1 p) (a2 p) (a3 p) = 0 → post (zk_RF (a0 p) (a1 p) (a2 p) (a3 p)) (nI n, nI p, a0, a1, a2, a3, a4, a5)) : wY_plan_2 post (nI n) l (f + 1) (nI p) a0 a1 a2 a3 a4 a5 := by
  have hv : vp_in (nI p) 24 := vp_in_nI (by omega) (by omega)
  have ec : (nI p).toNatClampNeg = p := nI_clamp (by omega)
  refine br_f (nI_ge (a := p) (b := n) hp (by omega)) ⟨hv, nm_r (congrArg a0 ec) ⟨hv, nm_r (congrArg a1 ec) ⟨hv, nm_r (congrArg a2 ec) ⟨hv, nm_r (congrArg a3 ec) ?_⟩⟩⟩⟩
  by_cases n1 : a0 p = a3 p
  · unfold zk_RF zk_NI zk_NW at ok
    rw [if_pos n1, if_pos n1, if_pos n1] at ok
    rw [ec]
    exact br_t n1 ⟨hv, nm_e ⟨hv, nm_e (nm_r (nI_1 p) (ok rfl))⟩⟩
  · refine br_f n1 ?_
    by_cases n2 : a2 p = a1 p ∧ (a1 p = a0 p ∨ a1 p = a3 p)
    · unfold zk_RF zk_NI zk_NW at ok
      rw [if_neg n1, if_pos n2, if_neg n1, if_neg n1, if_pos n2] at ok
      refine br_t n2.1 ?_
      have k := zy_p81 (post := post) (J := wY_plan_2 post (nI n) l f) (l := l) (n := n) (p := p) (t := a3 p) (a0 := a0) (a1 := a1) (a2 := a2) (a3 := a3) (a4 := a4) (a5 := a5) (by omega) (ok rfl)
      by_cases z : a1 p = a0 p
      · exact br_t z k
      · exact br_f z (br_t (n2.2.resolve_left z) k)
    · have k := zy_p100 (post := post) (J := wY_plan_2 post (nI n) l f) (l := l) (n := n) (p := p) (a0 := a0) (a1 := a1) (a2 := a2) (a3 := a3) (a4 := a4) (a5 := a5) (by omega) n1 n2 ok no
      by_cases z : a2 p = a1 p
      · exact br_t z (br_f (fun z2 => n2 ⟨z, Or.inl z2⟩) (br_f (fun z2 => n2 ⟨z, Or.inr z2⟩) k))
      · exact br_f z k
theorem zy_p2 {post : Int32 → SY → Prop} {l : Int32} {n : Nat} {a0 a1 a2 a3 a4 a5 : Nat → Int32} (hn : n ≤ 24) : ∀ d i, i + d = n →
    (∀ m, m = zk_fst (zk_gr a0 a1 a2 a3) d i → m < n → post (zk_RF (a0 m) (a1 m) (a2 m) (a3 m)) (nI n, nI m, a0, a1, a2, a3, zk_rw 0 (zk_ni a0 a1 a3) a4 m, zk_rw 0 (zk_nw a0 a1 a2 a3) a5 m)) →
    (zk_fst (zk_gr a0 a1 a2 a3) d i = n → zk_h n (zk_ni a0 a1 a3) (zk_nw a0 a1 a2 a3) < n → post 4 (nI n, nI (zk_h n (zk_ni a0 a1 a3) (zk_nw a0 a1 a2 a3)), a0, a1, a2, a3, zk_rw 0 (zk_ni a0 a1 a3) a4 n, zk_rw 0 (zk_nw a0 a1 a2 a3) a5 n)) →
    (zk_fst (zk_gr a0 a1 a2 a3) d i = n → ¬ zk_h n (zk_ni a0 a1 a3) (zk_nw a0 a1 a2 a3) < n → post 0 (nI n, -1, a0, a1, a2, a3, zk_rw 0 (zk_ni a0 a1 a3) a4 n, zk_rw 0 (zk_nw a0 a1 a2 a3) a5 n)) →
    wY_plan_2 post (nI n) l (d + 1) (nI i) a0 a1 a2 a3 (zk_rw 0 (zk_ni a0 a1 a3) a4 i) (zk_rw 0 (zk_nw a0 a1 a2 a3) a5 i) := by
  intro d
  induction d with
  | zero =>
    intro i hi _ h4 h0
    have e : i = n := by omega
    subst e
    have eh : zk_h i (zk_rw 0 (zk_ni a0 a1 a3) a4 i) (zk_rw 0 (zk_nw a0 a1 a2 a3) a5 i) = zk_h i (zk_ni a0 a1 a3) (zk_nw a0 a1 a2 a3) := zk_h_c (fun q hq => by have := zk_rw_in (b := 0) (F := zk_ni a0 a1 a3) (c := a4) hq; rw [Nat.zero_add] at this; exact this) (fun q hq => by have := zk_rw_in (b := 0) (F := zk_nw a0 a1 a2 a3) (c := a5) hq; rw [Nat.zero_add] at this; exact this)
    rw [← eh] at h4 h0
    exact br_t (nI_le (Nat.le_refl i) (by omega)) ⟨i + 1, zy_168 hn i 0 (by omega) (h4 rfl) (h0 rfl)⟩
  | succ d ih =>
    intro i hi hr h4 h0
    refine zy_pstep (by omega) hn (fun z => ?_) (fun z => ?_)
    · have g : zk_gr a0 a1 a2 a3 i = false := zk_nd0 z
      rw [zk_fst_f g] at hr h4 h0
      rw [zk_rw_up (F := zk_ni a0 a1 a3) (v := zk_NI (a0 i) (a1 i) (a3 i)) (show i = 0 + i by omega) rfl, zk_rw_up (F := zk_nw a0 a1 a2 a3) (v := zk_NW (a0 i) (a1 i) (a2 i) (a3 i)) (show i = 0 + i by omega) rfl]
      exact ih (i + 1) (by omega) hr h4 h0
    · have g : zk_gr a0 a1 a2 a3 i = true := zk_nd z
      rw [zk_fst_t g] at hr
      exact hr i rfl (by omega)
theorem zy_plan {post : Int32 → SY → Prop} {l : Int32} {n : Nat} {a0 a1 a2 a3 a4 a5 : Nat → Int32} (hn : n ≤ 24) (h : post (zk_pa n a0 a1 a2 a3) (nI n, zk_pr n a0 a1 a2 a3, a0, a1, a2, a3, zk_rw 0 (zk_ni a0 a1 a3) a4 (zk_m n a0 a1 a2 a3), zk_rw 0 (zk_nw a0 a1 a2 a3) a5 (zk_m n a0 a1 a2 a3))) : wpY_plan post (nI n, l, a0, a1, a2, a3, a4, a5) := by
  unfold wpY_plan
  dsimp only
  have le : zk_m n a0 a1 a2 a3 ≤ 0 + n := zk_fst_le n 0
  have k := zy_p2 (post := post) (l := l) (a0 := a0) (a1 := a1) (a2 := a2) (a3 := a3) (a4 := a4) (a5 := a5) hn n 0 (by omega) (fun m em hm => ?_) (fun em hh => ?_) (fun em hh => ?_)
  · rw [zk_rw_0, zk_rw_0] at k
    exact ⟨n + 1, k⟩
  · have em' : zk_m n a0 a1 a2 a3 = m := em.symm
    unfold zk_pa zk_pr at h
    rw [em', if_pos hm, if_pos hm] at h
    exact h
  · have em' : zk_m n a0 a1 a2 a3 = n := em
    unfold zk_pa zk_pr at h
    rw [em', if_neg (Nat.lt_irrefl n), if_neg (Nat.lt_irrefl n), if_pos hh, if_pos hh] at h
    exact h
  · have em' : zk_m n a0 a1 a2 a3 = n := em
    unfold zk_pa zk_pr at h
    rw [em', if_neg (Nat.lt_irrefl n), if_neg (Nat.lt_irrefl n), if_neg hh, if_neg hh] at h
    exact h
theorem zy_preview {post : Int32 → SY → Prop} {l : Int32} {n : Nat} {a0 a1 a2 a3 a4 a5 : Nat → Int32} (hn : n ≤ 24) (h : post (zk_pa n a0 a1 a2 a3) (nI n, zk_pr n a0 a1 a2 a3, a0, a1, a2, a3, zk_rw 0 (zk_ni a0 a1 a3) a4 (zk_m n a0 a1 a2 a3), zk_rw 0 (zk_nw a0 a1 a2 a3) a5 (zk_m n a0 a1 a2 a3))) : wpY_preview post (nI n, l, a0, a1, a2, a3, a4, a5) := by
  unfold wpY_preview
  dsimp only
  exact zy_plan hn h
theorem zy_ap2 {post : SY → Prop} {l : Int32} {n : Nat} {a0 a1 a2 a3 a4 a5 : Nat → Int32} (hn : n ≤ 24) : ∀ d i, i + d = n → post (nI n, l, zk_rw 0 a3 a0 n, zk_rw 0 a4 a1 n, zk_rw 0 a5 a2 n, a3, a4, a5) → wY_apply_2 post (nI n) l (d + 1) (nI i) (zk_rw 0 a3 a0 i) (zk_rw 0 a4 a1 i) (zk_rw 0 a5 a2 i) a3 a4 a5 := by
  intro d
  induction d with
  | zero =>
    intro i hi h
    have e : i = n := by omega
    subst e
    exact br_t (nI_le (Nat.le_refl i) (by omega)) h
  | succ d ih =>
    intro i hi h
    have hv : vp_in (nI i) 24 := vp_in_nI (by omega) (by omega)
    have up : ∀ f g : Nat → Int32, upd (zk_rw 0 f g i) (nI i).toNatClampNeg (f (nI i).toNatClampNeg) = zk_rw 0 f g (i + 1) := by
      intro f g
      rw [nI_clamp (show i < 2 ^ 31 by omega), zk_rw_up (by omega) rfl]
    exact br_f (nI_ge (a := i) (b := n) (by omega) (by omega)) ⟨hv, hv, nm_r (up a3 a0) ⟨hv, hv, nm_r (up a4 a1) ⟨hv, hv, nm_r (up a5 a2) (nm_r (nI_1 i) (ih (i + 1) (by omega) h))⟩⟩⟩
theorem zy_apply {post : SY → Prop} {l : Int32} {n : Nat} {a0 a1 a2 a3 a4 a5 : Nat → Int32} (hn : n ≤ 24) (h : post (nI n, l, zk_rw 0 a3 a0 n, zk_rw 0 a4 a1 n, zk_rw 0 a5 a2 n, a3, a4, a5)) : wpY_apply post (nI n, l, a0, a1, a2, a3, a4, a5) := by
  unfold wpY_apply
  dsimp only
  have k := zy_ap2 (post := post) (l := l) (a0 := a0) (a1 := a1) (a2 := a2) (a3 := a3) (a4 := a4) (a5 := a5) hn n 0 (by omega) h
  rw [zk_rw_0, zk_rw_0, zk_rw_0] at k
  exact ⟨n + 1, k⟩
theorem zy_sw0 {post : Int32 → SY → Prop} {l : Int32} {n : Nat} {a0 a1 a2 a3 a4 a5 : Nat → Int32} (hn : n ≤ 24)
    (h0 : zk_pa n a0 a1 a2 a3 = 0 → post (zk_pa n a0 a1 a2 a3) (nI n, zk_pr n a0 a1 a2 a3, zk_rw 0 a3 a0 n, zk_rw 0 (zk_rw 0 (zk_ni a0 a1 a3) a4 (zk_m n a0 a1 a2 a3)) a1 n, zk_rw 0 (zk_rw 0 (zk_nw a0 a1 a2 a3) a5 (zk_m n a0 a1 a2 a3)) a2 n, a3, zk_rw 0 (zk_ni a0 a1 a3) a4 (zk_m n a0 a1 a2 a3), zk_rw 0 (zk_nw a0 a1 a2 a3) a5 (zk_m n a0 a1 a2 a3)))
    (h1 : ¬ zk_pa n a0 a1 a2 a3 = 0 → post (zk_pa n a0 a1 a2 a3) (nI n, zk_pr n a0 a1 a2 a3, a0, a1, a2, a3, zk_rw 0 (zk_ni a0 a1 a3) a4 (zk_m n a0 a1 a2 a3), zk_rw 0 (zk_nw a0 a1 a2 a3) a5 (zk_m n a0 a1 a2 a3))) : wpY_switchTo post (nI n, l, a0, a1, a2, a3, a4, a5) 0 := by
  unfold wpY_switchTo
  dsimp only
  refine br_t rfl (zy_plan hn ?_)
  by_cases z : zk_pa n a0 a1 a2 a3 = 0
  · exact br_t z (zy_apply hn (h0 z))
  · exact br_f z (h1 z)
theorem zy_s21 {post : Int32 → SY → Prop} {l : Int32} {n : Nat} {a0 a1 a2 a3 a4 a5 : Nat → Int32} (hn : n ≤ 24) : ∀ d i, i + d = n →
    post 0 (nI n, -1, zk_rw 0 a3 a0 n, zk_rw 0 (zk_rw 0 a3 a4 n) a1 n, zk_rw 0 (zk_rw 0 (zk_fw n a0 a1 a2 a3) a5 n) a2 n, a3, zk_rw 0 a3 a4 n, zk_rw 0 (zk_fw n a0 a1 a2 a3) a5 n) →
    wY_switchTo_21 post (nI n) l (d + 1) (nI i) a0 a1 a2 a3 (zk_rw 0 a3 a4 i) (zk_rw 0 (zk_fw n a0 a1 a2 a3) a5 i) := by
  intro d
  induction d with
  | zero =>
    intro i hi h
    have e : i = n := by omega
    subst e
    exact br_t (nI_le (Nat.le_refl i) (by omega)) (zy_apply hn h)
  | succ d ih =>
    intro i hi h
    have hv : vp_in (nI i) 24 := vp_in_nI (by omega) (by omega)
    have ec : (nI i).toNatClampNeg = i := nI_clamp (by omega)
    have up4 : upd (zk_rw 0 a3 a4 i) (nI i).toNatClampNeg (a3 i) = zk_rw 0 a3 a4 (i + 1) := by
      rw [ec, zk_rw_up (by omega) rfl]
    have up5 : ∀ v, v = zk_fw n a0 a1 a2 a3 i → upd (zk_rw 0 (zk_fw n a0 a1 a2 a3) a5 i) (nI i).toNatClampNeg v = zk_rw 0 (zk_fw n a0 a1 a2 a3) a5 (i + 1) := by
      intro v hv
      rw [ec, zk_rw_up (by omega) hv]
    have nx := ih (i + 1) (by omega) h
    refine br_f (nI_ge (a := i) (b := n) (by omega) (by omega)) ⟨hv, nm_r (congrArg a3 ec) ⟨hv, nm_r up4 ⟨hv, ?_⟩⟩⟩
    have k65 : (¬ a0 i = 0 ∨ ¬ a1 i = 0 ∨ ¬ a3 i = 0) → wY_switchTo_65 post (wY_switchTo_21 post (nI n) l (d + 1)) (nI i) (a3 i) (nI n) l a0 a1 a2 a3 (zk_rw 0 a3 a4 (i + 1)) (zk_rw 0 (zk_fw n a0 a1 a2 a3) a5 i) := by
      intro z
      unfold wY_switchTo_65
      exact ⟨hv, nm_r (up5 _ (by unfold zk_fw; rw [if_pos z])) (nm_r (nI_1 i) nx)⟩
    rw [show a0 (nI i).toNatClampNeg = a0 i by rw [ec]]
    by_cases z0 : a0 i = 0
    · refine br_t z0 ⟨hv, ?_⟩
      rw [show a1 (nI i).toNatClampNeg = a1 i by rw [ec]]
      by_cases z1 : a1 i = 0
      · refine br_t z1 ?_
        by_cases z3 : a3 i = 0
        · have nz : ¬ (¬ a0 i = 0 ∨ ¬ a1 i = 0 ∨ ¬ a3 i = 0) := by
            rintro (a | a | a)
            · exact a z0
            · exact a z1
            · exact a z3
          have k93 : (zk_fa n a3 i = true ∨ zk_fb n a3 i = true) → wY_switchTo_93 post (wY_switchTo_21 post (nI n) l (d + 1)) (nI i) (nI n) l a0 a1 a2 a3 (zk_rw 0 a3 a4 (i + 1)) (zk_rw 0 (zk_fw n a0 a1 a2 a3) a5 i) := by
            intro z
            unfold wY_switchTo_93
            exact ⟨hv, nm_r (up5 _ (by unfold zk_fw; rw [if_neg nz, if_pos z])) (nm_r (nI_1 i) nx)⟩
          refine br_t z3 (zy_fa (f := a3) 3 i (by omega) (by omega) hn rfl ?_)
          cases ea : zk_fa n a3 i with
          | true => exact br_f (by decide) (k93 (Or.inl ea))
          | false =>
            refine br_t rfl (zy_fb (f := a3) 3 i (by omega) (by omega) hn rfl ?_)
            cases eb : zk_fb n a3 i with
            | true => exact br_f (by decide) (k93 (Or.inr eb))
            | false =>
              refine br_t rfl ⟨hv, hv, nm_r (up5 _ ?_) (nm_r (nI_1 i) nx)⟩
              unfold zk_fw
              rw [if_neg nz, if_neg (by rw [ea, eb]; decide), ec]
        · exact br_f z3 (k65 (Or.inr (Or.inr z3)))
      · exact br_f z1 (k65 (Or.inr (Or.inl z1)))
    · exact br_f z0 (k65 (Or.inl z0))
theorem zy_sw1 {post : Int32 → SY → Prop} {l : Int32} {n : Nat} {a0 a1 a2 a3 a4 a5 : Nat → Int32} (hn : n ≤ 24)
    (h : post 0 (nI n, -1, zk_rw 0 a3 a0 n, zk_rw 0 (zk_rw 0 a3 a4 n) a1 n, zk_rw 0 (zk_rw 0 (zk_fw n a0 a1 a2 a3) a5 n) a2 n, a3, zk_rw 0 a3 a4 n, zk_rw 0 (zk_fw n a0 a1 a2 a3) a5 n)) : wpY_switchTo post (nI n, l, a0, a1, a2, a3, a4, a5) 1 := by
  unfold wpY_switchTo
  dsimp only
  have k := zy_s21 (post := post) (l := l) (a0 := a0) (a1 := a1) (a2 := a2) (a3 := a3) (a4 := a4) (a5 := a5) hn n 0 (by omega) h
  rw [zk_rw_0, zk_rw_0] at k
  exact br_f (by decide) ⟨n + 1, k⟩
end ZYC
section ZYD
/-! the readers -/
theorem zy_tno {A B : Prop} {x : Int32} (hx : x < 0 ∨ 3 < x) (h : B) : (x < 0 → B) ∧ (¬ x < 0 → ((3 < x → B) ∧ (¬ 3 < x → A))) := by
  by_cases e : x < 0
  · exact br_t e h
  · exact br_f e (br_t (hx.resolve_left e) h)
theorem zy_t1 {A B : Prop} {t : Nat} (ht : t < 4) (h : A) : (nI t < 0 → B) ∧ (¬ nI t < 0 → ((3 < nI t → B) ∧ (¬ 3 < nI t → A))) :=
  br_f (nI_pos (by omega)) (br_f (nI_nlt (a := 3) (b := t) (by omega) (by decide)) h)
theorem zy_p1 {A B : Prop} {n p : Nat} (hp : p < n) (hn : n ≤ 24) (h : A) : (nI p < 0 → B) ∧ (¬ nI p < 0 → ((nI p < nI n → A) ∧ (¬ nI p < nI n → B))) :=
  br_f (nI_pos (by omega)) (br_t (nI_lt hp (by omega)) h)
theorem zy_entry {post : Int32 → Prop} {l : Int32} {n : Nat} {a0 a1 a2 a3 a4 a5 : Nat → Int32} (t p : Nat) (ht : t < 4) (hp : p < n) (hn : n ≤ 24) (h : post (zk_tr a0 a1 a2 a3 a4 a5 t p)) : wpY_entry post (nI n, l, a0, a1, a2, a3, a4, a5) (nI t) (nI p) := by
  unfold wpY_entry
  dsimp only
  exact zy_t1 ht (zy_p1 hp hn (zy_get t p (by omega) hp hn rfl h))
theorem zy_entry0 {post : Int32 → Prop} {x y : Int32} {l : Int32} {n : Nat} {a0 a1 a2 a3 a4 a5 : Nat → Int32} (hx : x < 0 ∨ 3 < x) (h : post (-1)) : wpY_entry post (nI n, l, a0, a1, a2, a3, a4, a5) x y := by
  unfold wpY_entry
  dsimp only
  exact zy_tno hx h
theorem zy_entry1 {post : Int32 → Prop} {y : Int32} {l : Int32} {n : Nat} {a0 a1 a2 a3 a4 a5 : Nat → Int32} (t : Nat) (ht : t < 4) (hy : y < 0 ∨ nI n ≤ y) (h : post (-1)) : wpY_entry post (nI n, l, a0, a1, a2, a3, a4, a5) (nI t) y := by
  unfold wpY_entry
  dsimp only
  exact zy_t1 ht (zy_no hy h)
theorem zy_kind {post : Int32 → Prop} {l : Int32} {n : Nat} {a0 a1 a2 a3 a4 a5 : Nat → Int32} (t p : Nat) (ht : t < 4) (hp : p < n) (hn : n ≤ 24) (h : post (zk_kd n (zk_tr a0 a1 a2 a3 a4 a5 t) p)) : wpY_kind post (nI n, l, a0, a1, a2, a3, a4, a5) (nI t) (nI p) := by
  unfold wpY_kind
  dsimp only
  refine zy_t1 ht (zy_p1 hp hn (zy_get t p (by omega) hp hn rfl ?_))
  unfold zk_kd at h
  by_cases z : zk_tr a0 a1 a2 a3 a4 a5 t p = 0
  · rw [if_pos z] at h
    refine br_t z (zy_fb t p (by omega) hp hn rfl ?_)
    cases e : zk_fb n (zk_tr a0 a1 a2 a3 a4 a5 t) p with
    | true =>
      rw [e] at h
      exact br_f (by decide) h
    | false =>
      rw [e] at h
      exact br_t rfl h
  · rw [if_neg z] at h
    exact br_f z h
theorem zy_kind0 {post : Int32 → Prop} {x y : Int32} {l : Int32} {n : Nat} {a0 a1 a2 a3 a4 a5 : Nat → Int32} (hx : x < 0 ∨ 3 < x) (h : post (-1)) : wpY_kind post (nI n, l, a0, a1, a2, a3, a4, a5) x y := by
  unfold wpY_kind
  dsimp only
  exact zy_tno hx h
theorem zy_kind1 {post : Int32 → Prop} {y : Int32} {l : Int32} {n : Nat} {a0 a1 a2 a3 a4 a5 : Nat → Int32} (t : Nat) (ht : t < 4) (hy : y < 0 ∨ nI n ≤ y) (h : post (-1)) : wpY_kind post (nI n, l, a0, a1, a2, a3, a4, a5) (nI t) y := by
  unfold wpY_kind
  dsimp only
  exact zy_t1 ht (zy_no hy h)
theorem zy_cmp {post : Int32 → Prop} {a b : Int32} {v : SY} (h : post (zk_cm a b)) : wpY_cmp post v a b := by
  obtain ⟨_, _, _, _, _, _, _, _⟩ := v
  unfold wpY_cmp
  dsimp only
  unfold zk_cm at h
  by_cases z1 : a = b
  · rw [if_pos z1] at h
    exact br_t z1 h
  · rw [if_neg z1] at h
    refine br_f z1 ?_
    by_cases z2 : a = 0
    · rw [if_pos z2] at h
      exact br_t z2 h
    · rw [if_neg z2] at h
      refine br_f z2 ?_
      by_cases z3 : b = 0
      · rw [if_pos z3] at h
        exact br_t z3 h
      · rw [if_neg z3] at h
        exact br_f z3 h
theorem zy_status {post : Int32 → Prop} {l : Int32} {n : Nat} {a0 a1 a2 a3 a4 a5 : Nat → Int32} (p : Nat) (hp : p < n) (hn : n ≤ 24) (h : post (zk_cm (a0 p) (a1 p) * 4 + zk_cm (a1 p) (a2 p))) : wpY_status post (nI n, l, a0, a1, a2, a3, a4, a5) (nI p) := by
  unfold wpY_status
  dsimp only
  rw [nI_clamp (show p < 2 ^ 31 by omega)]
  have hv : vp_in (nI p) 24 := vp_in_nI (by omega) (by omega)
  exact zy_p1 hp hn ⟨hv, hv, zy_cmp ⟨hv, hv, zy_cmp h⟩⟩
theorem zy_status0 {post : Int32 → Prop} {x : Int32} {l : Int32} {n : Nat} {a0 a1 a2 a3 a4 a5 : Nat → Int32} (hx : x < 0 ∨ nI n ≤ x) (h : post (-1)) : wpY_status post (nI n, l, a0, a1, a2, a3, a4, a5) x := by
  unfold wpY_status
  dsimp only
  exact zy_no hx h
theorem zy_cf15 {post : Int32 → Prop} {l : Int32} {n : Nat} {a0 a1 a2 a3 a4 a5 : Nat → Int32} (t : Nat) (ht : t < 6) (hn : n ≤ 24) : ∀ d i r, i + d = n → post (nI (r + zk_cn (zk_nz (zk_tr a0 a1 a2 a3 a4 a5 t)) d i)) → wY_countFiles_15 post (nI t) (nI n) l a0 a1 a2 a3 a4 a5 (d + 1) (nI r) (nI i) := by
  intro d
  induction d with
  | zero =>
    intro i r hi h
    exact br_t (nI_le (a := n) (b := i) (by omega) (by omega)) h
  | succ d ih =>
    intro i r hi h
    refine br_f (nI_ge (a := i) (b := n) (by omega) (by omega)) (zy_get t i ht (by omega) hn rfl ?_)
    by_cases z : zk_tr a0 a1 a2 a3 a4 a5 t i = 0
    · rw [zk_cn_f (g := zk_nz (zk_tr a0 a1 a2 a3 a4 a5 t)) (zk_nd0 z)] at h
      exact br_t z (nm_r (nI_1 i) (ih (i + 1) r (by omega) h))
    · rw [zk_cn_t (g := zk_nz (zk_tr a0 a1 a2 a3 a4 a5 t)) (zk_nd z), ← Nat.add_assoc] at h
      exact br_f z (nm_r (nI_1 r) (nm_r (nI_1 i) (ih (i + 1) (r + 1) (by omega) h)))
theorem zy_count {post : Int32 → Prop} {l : Int32} {n : Nat} {a0 a1 a2 a3 a4 a5 : Nat → Int32} (t : Nat) (ht : t < 4) (hn : n ≤ 24) (h : post (nI (zk_cn (zk_nz (zk_tr a0 a1 a2 a3 a4 a5 t)) n 0))) : wpY_countFiles post (nI n, l, a0, a1, a2, a3, a4, a5) (nI t) := by
  unfold wpY_countFiles
  dsimp only
  exact br_f (nI_pos (by omega)) (br_t (nI_le (a := t) (b := 3) (by omega) (by decide)) ⟨n + 1, zy_cf15 t (by omega) hn n 0 0 (by omega) (by rw [Nat.zero_add]; exact h)⟩)
theorem zy_count0 {post : Int32 → Prop} {x : Int32} {l : Int32} {n : Nat} {a0 a1 a2 a3 a4 a5 : Nat → Int32} (hx : x < 0 ∨ 3 < x) (h : post (-1)) : wpY_countFiles post (nI n, l, a0, a1, a2, a3, a4, a5) x := by
  unfold wpY_countFiles
  dsimp only
  by_cases e : x < 0
  · exact br_t e h
  · exact br_f e (br_f (Int32.not_le.mpr (hx.resolve_left e)) h)
end ZYD
end
section
section ZRA
/-! what the two sides make of a tree stays alike -/
theorem zk_fst_hi {g : Nat → Bool} : ∀ d i, zk_fst g d i < i + d → g (zk_fst g d i) = true := by
  intro d
  induction d with
  | zero =>
    intro i h
    exact absurd (show i < i + 0 from h) (by omega)
  | succ d ih =>
    intro i h
    cases e : g i with
    | true =>
      rw [zk_fst_t e]
      exact e
    | false =>
      rw [zk_fst_f e] at h ⊢
      exact ih (i + 1) (by omega)
theorem zk_pa0 {n : Nat} {H I W T : Nat → Int32} (h : zk_pa n H I W T = 0) : zk_m n H I W T = n := by
  have le : zk_m n H I W T ≤ 0 + n := zk_fst_le n 0
  by_cases e : zk_m n H I W T < n
  · have g : zk_gr H I W T (zk_m n H I W T) = true := zk_fst_hi n 0 (by show zk_m n H I W T < 0 + n; omega)
    unfold zk_pa at h
    rw [if_pos e] at h
    unfold zk_gr at g
    rw [zk_nd0 h] at g
    exact absurd g (by decide)
  · omega
theorem zr_dg {p q : Nat} {f g : Nat → Int32} (e : f q = g q) : zk_dg p f q = zk_dg p g q := by
  unfold zk_dg
  rw [e]
theorem zr_ne {q : Nat} {f g f' g' : Nat → Int32} (e : f q = f' q) (e' : g q = g' q) : zk_ne f g q = zk_ne f' g' q := by
  unfold zk_ne
  rw [e, e']
theorem zr_nz {q : Nat} {f g : Nat → Int32} (e : f q = g q) : zk_nz f q = zk_nz g q := by
  unfold zk_nz
  rw [e]
theorem zr_us {n t p : Nat} {y : Int32} {c a : Nat → Int32} (e : ∀ q, q < n → c (t * 24 + q) = a q) : ∀ q, q < n → upd c (t * 24 + p) y (t * 24 + q) = upd a p y q := by
  intro q hq
  by_cases z : q = p
  · subst z
    rw [pk_us, pk_us]
  · rw [pk_un (by omega), pk_un z, e q hq]
theorem zr_uo {n k t p : Nat} {y : Int32} {c a : Nat → Int32} (hn : n ≤ 24) (hp : p < 24) (hk : k ≠ t) (e : ∀ q, q < n → c (k * 24 + q) = a q) : ∀ q, q < n → upd c (t * 24 + p) y (k * 24 + q) = a q := by
  intro q hq
  rw [pk_un (by omega), e q hq]
theorem zr_in {n q : Nat} {F a : Nat → Int32} (hq : q < n) : zk_rw 0 F a n q = F q := by
  have k := zk_rw_in (b := 0) (F := F) (c := a) hq
  rw [Nat.zero_add] at k
  exact k
theorem zr_rs {n t : Nat} {F G c a : Nat → Int32} (e : ∀ q, q < n → F q = G q) : ∀ q, q < n → zk_rw (t * 24) F c n (t * 24 + q) = zk_rw 0 G a n q := by
  intro q hq
  rw [zk_rw_in hq, zr_in hq, e q hq]
theorem zr_ro {n k t : Nat} {F c a : Nat → Int32} (hn : n ≤ 24) (hk : k ≠ t) (e : ∀ q, q < n → c (k * 24 + q) = a q) : ∀ q, q < n → zk_rw (t * 24) F c n (k * 24 + q) = a q := by
  intro q hq
  rw [zk_rw_out (by omega), e q hq]
theorem zr_tr {n : Nat} {c a0 a1 a2 a3 a4 a5 : Nat → Int32} (e0 : ∀ q, q < n → c (0 * 24 + q) = a0 q) (e1 : ∀ q, q < n → c (1 * 24 + q) = a1 q) (e2 : ∀ q, q < n → c (2 * 24 + q) = a2 q) (e3 : ∀ q, q < n → c (3 * 24 + q) = a3 q) : ∀ t, t < 4 → ∀ q, q < n → c (t * 24 + q) = zk_tr a0 a1 a2 a3 a4 a5 t q := by
  intro t ht
  match t, ht with
  | 0, _ => exact e0
  | 1, _ => exact e1
  | 2, _ => exact e2
  | 3, _ => exact e3
  | t + 4, ht => exact absurd ht (by omega)
theorem zr_t4 {x : Int32} (h : nI 4 ≤ x) : 3 < x := Int32.lt_of_lt_of_le (show (3 : Int32) < nI 4 by decide) h
/-- one path count, one recorded path; the store's first four trees are the reference's four arrays below the count -/
def i_Rel (_ : Nat) (u : SX) (v : SY) : Prop := ∃ (n : Nat) (l : Int32) (c a0 a1 a2 a3 a4 a5 : Nat → Int32), u = (nI n, l, c) ∧ v = (nI n, l, a0, a1, a2, a3, a4, a5) ∧ n ≤ 24 ∧ (∀ q, q < n → c (0 * 24 + q) = a0 q) ∧ (∀ q, q < n → c (1 * 24 + q) = a1 q) ∧ (∀ q, q < n → c (2 * 24 + q) = a2 q) ∧ (∀ q, q < n → c (3 * 24 + q) = a3 q)
theorem zr_mk {k n : Nat} {l : Int32} {c a0 a1 a2 a3 a4 a5 : Nat → Int32} (hn : n ≤ 24) (e0 : ∀ q, q < n → c (0 * 24 + q) = a0 q) (e1 : ∀ q, q < n → c (1 * 24 + q) = a1 q) (e2 : ∀ q, q < n → c (2 * 24 + q) = a2 q) (e3 : ∀ q, q < n → c (3 * 24 + q) = a3 q) : i_Rel k (nI n, l, c) (nI n, l, a0, a1, a2, a3, a4, a5) :=
  ⟨n, l, c, a0, a1, a2, a3, a4, a5, rfl, rfl, hn, e0, e1, e2, e3⟩
theorem zr_0 {k n : Nat} (hn : n ≤ 24) : i_Rel k (nI n, -1, fun _ => 0) (nI n, -1, (fun _ => 0), (fun _ => 0), (fun _ => 0), (fun _ => 0), (fun _ => 0), (fun _ => 0)) :=
  zr_mk hn (fun _ _ => rfl) (fun _ _ => rfl) (fun _ _ => rfl) (fun _ _ => rfl)
end ZRA
end
section
section ZRB
theorem i_up {k : Nat} {u : SX} {v : SY} (h : i_Rel k u v) : i_Rel (k + 3) u v := h
theorem i_vc0 (k0 : Int32) : wpX_init (fun u => wpY_init (fun v => i_Rel 1 u v) k0) k0 := by
  unfold wpX_init
  refine br_c (fun h8 => br_c (fun h24 => ?_) (fun h24 => ?_)) (fun h8 => ?_)
  · unfold wpY_init
    refine br_t h8 ?_
    unfold wY_init_63
    refine br_t h24 ?_
    obtain ⟨n, hn, rfl⟩ := nI_of2 (M := 24) (n := 24) (by decide) (Int32.not_lt.mpr (Int32.le_trans (by decide) h8)) h24
    exact zr_0 hn
  · unfold wpY_init
    refine br_t h8 ?_
    unfold wY_init_63
    exact br_f h24 (zr_0 (n := 24) (by omega))
  · unfold wpY_init
    refine br_f h8 ?_
    unfold wY_init_63
    exact br_t (by decide) (zr_0 (n := 8) (by omega))
theorem i_vc_size {k : Nat} {u : SX} {v : SY} (I : i_Rel k u v) (hk : k + 3 ≤ 1537) : wpX_size (fun r => wpY_size (fun r' => r' = r ∧ i_Rel (k + 3) u v) v) u := by
  obtain ⟨n, l, c, a0, a1, a2, a3, a4, a5, rfl, rfl, hn, e0, e1, e2, e3⟩ := I
  unfold wpX_size
  dsimp only
  unfold wpY_size
  dsimp only
  exact ⟨rfl, zr_mk hn e0 e1 e2 e3⟩
theorem i_vc_write {k : Nat} {u : SX} {v : SY} (I : i_Rel k u v) (hk : k + 3 ≤ 1537) (v1 : Int32) (v2 : Int32) : wpX_write (fun r u' => wpY_write (fun r' v' => r' = r ∧ i_Rel (k + 3) u' v') v v1 v2) u v1 v2 := by
  obtain ⟨n, l, c, a0, a1, a2, a3, a4, a5, rfl, rfl, hn, e0, e1, e2, e3⟩ := I
  rcases pk_ix v1 (n := n) (by omega) with h | h | ⟨p, hp, rfl⟩
  · exact zx_write0 (Or.inl h) (zy_write0 (Or.inl h) ⟨rfl, zr_mk hn e0 e1 e2 e3⟩)
  · exact zx_write0 (Or.inr h) (zy_write0 (Or.inr h) ⟨rfl, zr_mk hn e0 e1 e2 e3⟩)
  · refine zx_write hp hn (zy_write hp hn ?_)
    have e := zk_wo_c (p := p) (y := v2) (f := fun q => c (2 * 24 + q)) e2
    rw [e]
    refine ⟨rfl, ?_⟩
    cases zk_wo n a2 p v2 with
    | false => exact zr_mk hn e0 e1 e2 e3
    | true => exact zr_mk hn (zr_uo (k := 0) (t := 2) hn (by omega) (by omega) e0) (zr_uo (k := 1) (t := 2) hn (by omega) (by omega) e1) (zr_us (t := 2) e2) (zr_uo (k := 3) (t := 2) hn (by omega) (by omega) e3)
theorem i_vc_delete {k : Nat} {u : SX} {v : SY} (I : i_Rel k u v) (hk : k + 3 ≤ 1537) (v1 : Int32) : wpX_delete (fun r u' => wpY_delete (fun r' v' => r' = r ∧ i_Rel (k + 3) u' v') v v1) u v1 := by
  obtain ⟨n, l, c, a0, a1, a2, a3, a4, a5, rfl, rfl, hn, e0, e1, e2, e3⟩ := I
  rcases pk_ix v1 (n := n) (by omega) with h | h | ⟨p, hp, rfl⟩
  · exact zx_delete0 (Or.inl h) (zy_delete0 (Or.inl h) ⟨rfl, zr_mk hn e0 e1 e2 e3⟩)
  · exact zx_delete0 (Or.inr h) (zy_delete0 (Or.inr h) ⟨rfl, zr_mk hn e0 e1 e2 e3⟩)
  · refine zx_delete hp hn (zy_delete hp hn ⟨?_, ?_⟩)
    · refine congrArg nI (zk_cn_c n 0 (fun q _ hq => ?_))
      exact (zr_dg (f := fun q => c (2 * 24 + q)) (e2 q (by omega))).symm
    · refine zr_mk hn (zr_ro (k := 0) (t := 2) hn (by omega) e0) (zr_ro (k := 1) (t := 2) hn (by omega) e1) (zr_rs (t := 2) (fun q hq => ?_)) (zr_ro (k := 3) (t := 2) hn (by omega) e3)
      unfold zk_dF
      dsimp only
      rw [e2 q hq]
theorem i_vc_stage {k : Nat} {u : SX} {v : SY} (I : i_Rel k u v) (hk : k + 3 ≤ 1537) (v1 : Int32) : wpX_stage (fun r u' => wpY_stage (fun r' v' => r' = r ∧ i_Rel (k + 3) u' v') v v1) u v1 := by
  obtain ⟨n, l, c, a0, a1, a2, a3, a4, a5, rfl, rfl, hn, e0, e1, e2, e3⟩ := I
  rcases pk_ix v1 (n := n) (by omega) with h | h | ⟨p, hp, rfl⟩
  · exact zx_stage0 (Or.inl h) (zy_stage0 (Or.inl h) ⟨rfl, zr_mk hn e0 e1 e2 e3⟩)
  · exact zx_stage0 (Or.inr h) (zy_stage0 (Or.inr h) ⟨rfl, zr_mk hn e0 e1 e2 e3⟩)
  · refine zx_stage hp hn (zy_stage hp hn ⟨rfl, ?_⟩)
    unfold zk_sx zk_sy
    rw [e2 p hp]
    have f0 := zr_uo (k := 0) (t := 1) (p := p) (y := a2 p) hn (by omega) (by omega) e0
    have f1 := zr_us (t := 1) (p := p) (y := a2 p) e1
    have f2 := zr_uo (k := 2) (t := 1) (p := p) (y := a2 p) hn (by omega) (by omega) e2
    have f3 := zr_uo (k := 3) (t := 1) (p := p) (y := a2 p) hn (by omega) (by omega) e3
    by_cases z : a2 p = 0
    · rw [if_pos z, if_pos z]
      exact zr_mk hn f0 f1 f2 f3
    · rw [if_neg z, if_neg z]
      refine zr_mk hn (zr_ro (k := 0) (t := 1) hn (by omega) f0) (zr_rs (t := 1) (fun q hq => ?_)) (zr_ro (k := 2) (t := 1) hn (by omega) f2) (zr_ro (k := 3) (t := 1) hn (by omega) f3)
      unfold zk_cF
      dsimp only
      rw [f1 q hq]
theorem i_vc_commit {k : Nat} {u : SX} {v : SY} (I : i_Rel k u v) (hk : k + 3 ≤ 1537) : wpX_commit (fun r u' => wpY_commit (fun r' v' => r' = r ∧ i_Rel (k + 3) u' v') v) u := by
  obtain ⟨n, l, c, a0, a1, a2, a3, a4, a5, rfl, rfl, hn, e0, e1, e2, e3⟩ := I
  refine zx_commit hn (zy_commit hn ⟨?_, ?_⟩)
  · refine congrArg nI (zk_cn_c n 0 (fun q _ hq => ?_))
    exact (zr_ne (f := fun q => c (0 * 24 + q)) (g := fun q => c (1 * 24 + q)) (e0 q (by omega)) (e1 q (by omega))).symm
  · exact zr_mk hn (zr_rs (t := 0) e1) (zr_ro (k := 1) (t := 0) hn (by omega) e1) (zr_ro (k := 2) (t := 0) hn (by omega) e2) (zr_ro (k := 3) (t := 0) hn (by omega) e3)
theorem i_vc_setTarget {k : Nat} {u : SX} {v : SY} (I : i_Rel k u v) (hk : k + 3 ≤ 1537) (v1 : Int32) (v2 : Int32) : wpX_setTarget (fun r u' => wpY_setTarget (fun r' v' => r' = r ∧ i_Rel (k + 3) u' v') v v1 v2) u v1 v2 := by
  obtain ⟨n, l, c, a0, a1, a2, a3, a4, a5, rfl, rfl, hn, e0, e1, e2, e3⟩ := I
  rcases pk_ix v1 (n := n) (by omega) with h | h | ⟨p, hp, rfl⟩
  · exact zx_setTarget0 (Or.inl h) (zy_setTarget0 (Or.inl h) ⟨rfl, zr_mk hn e0 e1 e2 e3⟩)
  · exact zx_setTarget0 (Or.inr h) (zy_setTarget0 (Or.inr h) ⟨rfl, zr_mk hn e0 e1 e2 e3⟩)
  · refine zx_setTarget hp hn (zy_setTarget hp hn ?_)
    have e := zk_to_c (p := p) (y := v2) (f := fun q => c (3 * 24 + q)) e3
    rw [e]
    refine ⟨rfl, ?_⟩
    cases zk_to n a3 p v2 with
    | false => exact zr_mk hn e0 e1 e2 e3
    | true => exact zr_mk hn (zr_uo (k := 0) (t := 3) hn (by omega) (by omega) e0) (zr_uo (k := 1) (t := 3) hn (by omega) (by omega) e1) (zr_uo (k := 2) (t := 3) hn (by omega) (by omega) e2) (zr_us (t := 3) e3)
theorem i_vc_targetFromHead {k : Nat} {u : SX} {v : SY} (I : i_Rel k u v) (hk : k + 3 ≤ 1537) : wpX_targetFromHead (fun u' => wpY_targetFromHead (fun v' => i_Rel (k + 3) u' v') v) u := by
  obtain ⟨n, l, c, a0, a1, a2, a3, a4, a5, rfl, rfl, hn, e0, e1, e2, e3⟩ := I
  exact zx_tfh hn (zy_tfh hn (zr_mk hn (zr_ro (k := 0) (t := 3) hn (by omega) e0) (zr_ro (k := 1) (t := 3) hn (by omega) e1) (zr_ro (k := 2) (t := 3) hn (by omega) e2) (zr_rs (t := 3) e0)))
theorem zr_ref {k n m : Nat} {l : Int32} {c A B a0 a1 a2 a3 a4 a5 : Nat → Int32} (hn : n ≤ 24) (e0 : ∀ q, q < n → c (0 * 24 + q) = a0 q) (e1 : ∀ q, q < n → c (1 * 24 + q) = a1 q) (e2 : ∀ q, q < n → c (2 * 24 + q) = a2 q) (e3 : ∀ q, q < n → c (3 * 24 + q) = a3 q) : i_Rel k (nI n, l, zk_pl A B c m) (nI n, l, a0, a1, a2, a3, a4, a5) :=
  zr_mk hn (fun q hq => (zk_pl_k 0 (by omega) (by omega)).trans (e0 q hq)) (fun q hq => (zk_pl_k 1 (by omega) (by omega)).trans (e1 q hq)) (fun q hq => (zk_pl_k 2 (by omega) (by omega)).trans (e2 q hq)) (fun q hq => (zk_pl_k 3 (by omega) (by omega)).trans (e3 q hq))
theorem zr_app {k n : Nat} {l : Int32} {c A B a0 a1 a2 a3 b4 b5 : Nat → Int32} (hn : n ≤ 24) (e3 : ∀ q, q < n → c (3 * 24 + q) = a3 q) (eA : ∀ q, q < n → A q = b4 q) (eB : ∀ q, q < n → B q = b5 q) : i_Rel k (nI n, l, zk_ap n (zk_pl A B c n)) (nI n, l, zk_rw 0 a3 a0 n, zk_rw 0 b4 a1 n, zk_rw 0 b5 a2 n, a3, b4, b5) := by
  refine zr_mk hn (fun q hq => ?_) (fun q hq => ?_) (fun q hq => ?_) (fun q hq => ?_)
  · rw [zk_ap_0 hq hn, zk_pl_k 3 (by omega) (by omega), zr_in hq, e3 q hq]
  · rw [zk_ap_1 hq hn, zk_pl_4 hq hn, zr_in hq, eA q hq]
  · rw [zk_ap_2 hq hn, zk_pl_5 hq, zr_in hq, eB q hq]
  · rw [zk_ap_3 hq hn, zk_pl_k 3 (by omega) (by omega), e3 q hq]
theorem i_vc_switchTo {k : Nat} {u : SX} {v : SY} (I : i_Rel k u v) (hk : k + 3 ≤ 1537) (v1 : Int32) : wpX_switchTo (fun r u' => wpY_switchTo (fun r' v' => r' = r ∧ i_Rel (k + 3) u' v') v (lw_bz v1)) u (lw_bz v1) := by
  obtain ⟨n, l, c, a0, a1, a2, a3, a4, a5, rfl, rfl, hn, e0, e1, e2, e3⟩ := I
  rcases lw_bz_01 v1 with e | e
  · rw [e]
    refine zx_sw0 hn e0 e1 e2 e3 (fun z => zy_sw0 hn (fun _ => ⟨rfl, ?_⟩) (fun z' => absurd z z')) (fun z => zy_sw0 hn (fun z' => absurd z' z) (fun _ => ⟨rfl, zr_ref hn e0 e1 e2 e3⟩))
    rw [zk_pa0 z]
    exact zr_app hn e3 (fun q hq => (zr_in hq).symm) (fun q hq => (zr_in hq).symm)
  · rw [e]
    refine zx_sw1 hn (zy_sw1 hn ⟨rfl, ?_⟩)
    refine zr_app hn e3 (fun q hq => ?_) (fun q hq => ?_)
    · rw [zr_in hq]
      exact e3 q hq
    · rw [zr_in hq]
      exact zk_fw_c e0 e1 e2 e3 q hq
theorem i_vc_preview {k : Nat} {u : SX} {v : SY} (I : i_Rel k u v) (hk : k + 3 ≤ 1537) : wpX_preview (fun r u' => wpY_preview (fun r' v' => r' = r ∧ i_Rel (k + 3) u' v') v) u := by
  obtain ⟨n, l, c, a0, a1, a2, a3, a4, a5, rfl, rfl, hn, e0, e1, e2, e3⟩ := I
  exact zx_preview hn e0 e1 e2 e3 (zy_preview hn ⟨rfl, zr_ref hn e0 e1 e2 e3⟩)
theorem i_vc_lastPath {k : Nat} {u : SX} {v : SY} (I : i_Rel k u v) (hk : k + 3 ≤ 1537) : wpX_lastPath (fun r => wpY_lastPath (fun r' => r' = r ∧ i_Rel (k + 3) u v) v) u := by
  obtain ⟨n, l, c, a0, a1, a2, a3, a4, a5, rfl, rfl, hn, e0, e1, e2, e3⟩ := I
  unfold wpX_lastPath
  dsimp only
  unfold wpY_lastPath
  dsimp only
  exact ⟨rfl, zr_mk hn e0 e1 e2 e3⟩
theorem i_vc_entry {k : Nat} {u : SX} {v : SY} (I : i_Rel k u v) (hk : k + 3 ≤ 1537) (v1 : Int32) (v2 : Int32) : wpX_entry (fun r => wpY_entry (fun r' => r' = r ∧ i_Rel (k + 3) u v) v v1 v2) u v1 v2 := by
  obtain ⟨n, l, c, a0, a1, a2, a3, a4, a5, rfl, rfl, hn, e0, e1, e2, e3⟩ := I
  have R : i_Rel (k + 3) (nI n, l, c) (nI n, l, a0, a1, a2, a3, a4, a5) := zr_mk hn e0 e1 e2 e3
  rcases pk_ix v1 (n := 4) (by omega) with h | h | ⟨t, ht, rfl⟩
  · exact zx_entry0 (Or.inl h) (zy_entry0 (Or.inl h) ⟨rfl, R⟩)
  · exact zx_entry0 (Or.inr (zr_t4 h)) (zy_entry0 (Or.inr (zr_t4 h)) ⟨rfl, R⟩)
  · rcases pk_ix v2 (n := n) (by omega) with h | h | ⟨p, hp, rfl⟩
    · exact zx_entry1 t ht (Or.inl h) (zy_entry1 t ht (Or.inl h) ⟨rfl, R⟩)
    · exact zx_entry1 t ht (Or.inr h) (zy_entry1 t ht (Or.inr h) ⟨rfl, R⟩)
    · exact zx_entry t p ht hp hn (zy_entry t p ht hp hn ⟨(zr_tr e0 e1 e2 e3 t ht p hp).symm, R⟩)
theorem i_vc_kind {k : Nat} {u : SX} {v : SY} (I : i_Rel k u v) (hk : k + 3 ≤ 1537) (v1 : Int32) (v2 : Int32) : wpX_kind (fun r => wpY_kind (fun r' => r' = r ∧ i_Rel (k + 3) u v) v v1 v2) u v1 v2 := by
  obtain ⟨n, l, c, a0, a1, a2, a3, a4, a5, rfl, rfl, hn, e0, e1, e2, e3⟩ := I
  have R : i_Rel (k + 3) (nI n, l, c) (nI n, l, a0, a1, a2, a3, a4, a5) := zr_mk hn e0 e1 e2 e3
  rcases pk_ix v1 (n := 4) (by omega) with h | h | ⟨t, ht, rfl⟩
  · exact zx_kind0 (Or.inl h) (zy_kind0 (Or.inl h) ⟨rfl, R⟩)
  · exact zx_kind0 (Or.inr (zr_t4 h)) (zy_kind0 (Or.inr (zr_t4 h)) ⟨rfl, R⟩)
  · rcases pk_ix v2 (n := n) (by omega) with h | h | ⟨p, hp, rfl⟩
    · exact zx_kind1 t ht (Or.inl h) (zy_kind1 t ht (Or.inl h) ⟨rfl, R⟩)
    · exact zx_kind1 t ht (Or.inr h) (zy_kind1 t ht (Or.inr h) ⟨rfl, R⟩)
    · exact zx_kind t p ht hp hn (zy_kind t p ht hp hn ⟨(zk_kd_c hp (zr_tr e0 e1 e2 e3 t ht)).symm, R⟩)
theorem i_vc_status {k : Nat} {u : SX} {v : SY} (I : i_Rel k u v) (hk : k + 3 ≤ 1537) (v1 : Int32) : wpX_status (fun r => wpY_status (fun r' => r' = r ∧ i_Rel (k + 3) u v) v v1) u v1 := by
  obtain ⟨n, l, c, a0, a1, a2, a3, a4, a5, rfl, rfl, hn, e0, e1, e2, e3⟩ := I
  have R : i_Rel (k + 3) (nI n, l, c) (nI n, l, a0, a1, a2, a3, a4, a5) := zr_mk hn e0 e1 e2 e3
  rcases pk_ix v1 (n := n) (by omega) with h | h | ⟨p, hp, rfl⟩
  · exact zx_status0 (Or.inl h) (zy_status0 (Or.inl h) ⟨rfl, R⟩)
  · exact zx_status0 (Or.inr h) (zy_status0 (Or.inr h) ⟨rfl, R⟩)
  · exact zx_status p hp hn (zy_status p hp hn ⟨by rw [e0 p hp, e1 p hp, e2 p hp], R⟩)
theorem i_vc_countFiles {k : Nat} {u : SX} {v : SY} (I : i_Rel k u v) (hk : k + 3 ≤ 1537) (v1 : Int32) : wpX_countFiles (fun r => wpY_countFiles (fun r' => r' = r ∧ i_Rel (k + 3) u v) v v1) u v1 := by
  obtain ⟨n, l, c, a0, a1, a2, a3, a4, a5, rfl, rfl, hn, e0, e1, e2, e3⟩ := I
  have R : i_Rel (k + 3) (nI n, l, c) (nI n, l, a0, a1, a2, a3, a4, a5) := zr_mk hn e0 e1 e2 e3
  rcases pk_ix v1 (n := 4) (by omega) with h | h | ⟨t, ht, rfl⟩
  · exact zx_count0 (Or.inl h) (zy_count0 (Or.inl h) ⟨rfl, R⟩)
  · exact zx_count0 (Or.inr (zr_t4 h)) (zy_count0 (Or.inr (zr_t4 h)) ⟨rfl, R⟩)
  · refine zx_count t ht hn (zy_count t ht hn ⟨congrArg nI (zk_cn_c n 0 (fun q _ hq => ?_)), R⟩)
    exact (zr_nz (f := fun q => c (t * 24 + q)) (zr_tr e0 e1 e2 e3 t ht q (by omega))).symm
end ZRB
end
